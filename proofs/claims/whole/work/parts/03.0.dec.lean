theorem dX0_init_0 : decode cX0_init 0 = .ok (.aload_n 0, 1) := by decide +kernel
theorem dX0_init_1 : decode cX0_init 1 = .ok (.invokespecial 3, 3) := by decide +kernel
theorem dX0_init_4 : decode cX0_init 4 = .ok (.aload_n 0, 1) := by decide +kernel
theorem dX0_init_5 : decode cX0_init 5 = .ok (.bipush 40, 2) := by decide +kernel
theorem dX0_init_7 : decode cX0_init 7 = .ok (.newarray .int, 2) := by decide +kernel
theorem dX0_init_9 : decode cX0_init 9 = .ok (.putfield 9, 3) := by decide +kernel
theorem dX0_init_12 : decode cX0_init 12 = .ok (.aload_n 0, 1) := by decide +kernel
theorem dX0_init_13 : decode cX0_init 13 = .ok (.bipush 40, 2) := by decide +kernel
theorem dX0_init_15 : decode cX0_init 15 = .ok (.newarray .int, 2) := by decide +kernel
theorem dX0_init_17 : decode cX0_init 17 = .ok (.putfield 15, 3) := by decide +kernel
theorem dX0_init_20 : decode cX0_init 20 = .ok (.aload_n 0, 1) := by decide +kernel
theorem dX0_init_21 : decode cX0_init 21 = .ok (.bipush 40, 2) := by decide +kernel
theorem dX0_init_23 : decode cX0_init 23 = .ok (.newarray .int, 2) := by decide +kernel
theorem dX0_init_25 : decode cX0_init 25 = .ok (.putfield 18, 3) := by decide +kernel
theorem dX0_init_28 : decode cX0_init 28 = .ok (.aload_n 0, 1) := by decide +kernel
theorem dX0_init_29 : decode cX0_init 29 = .ok (.bipush 40, 2) := by decide +kernel
theorem dX0_init_31 : decode cX0_init 31 = .ok (.newarray .int, 2) := by decide +kernel
theorem dX0_init_33 : decode cX0_init 33 = .ok (.putfield 21, 3) := by decide +kernel
theorem dX0_init_36 : decode cX0_init 36 = .ok (.aload_n 0, 1) := by decide +kernel
theorem dX0_init_37 : decode cX0_init 37 = .ok (.iconst 0, 1) := by decide +kernel
theorem dX0_init_38 : decode cX0_init 38 = .ok (.putfield 24, 3) := by decide +kernel
theorem dX0_init_41 : decode cX0_init 41 = .ok (.aload_n 0, 1) := by decide +kernel
theorem dX0_init_42 : decode cX0_init 42 = .ok (.iconst 0, 1) := by decide +kernel
theorem dX0_init_43 : decode cX0_init 43 = .ok (.putfield 28, 3) := by decide +kernel
theorem dX0_init_46 : decode cX0_init 46 = .ok (.return_, 1) := by decide +kernel
theorem dX0_add_0 : decode cX0_add 0 = .ok (.aload_n 0, 1) := by decide +kernel
theorem dX0_add_1 : decode cX0_add 1 = .ok (.getfield 28, 3) := by decide +kernel
theorem dX0_add_4 : decode cX0_add 4 = .ok (.bipush 40, 2) := by decide +kernel
theorem dX0_add_6 : decode cX0_add 6 = .ok (.if_icmp .lt 7, 3) := by decide +kernel
theorem dX0_add_9 : decode cX0_add 9 = .ok (.aload_n 0, 1) := by decide +kernel
theorem dX0_add_10 : decode cX0_add 10 = .ok (.invokevirtual 31, 3) := by decide +kernel
theorem dX0_add_13 : decode cX0_add 13 = .ok (.aload_n 0, 1) := by decide +kernel
theorem dX0_add_14 : decode cX0_add 14 = .ok (.getfield 9, 3) := by decide +kernel
theorem dX0_add_17 : decode cX0_add 17 = .ok (.aload_n 0, 1) := by decide +kernel
theorem dX0_add_18 : decode cX0_add 18 = .ok (.getfield 28, 3) := by decide +kernel
theorem dX0_add_21 : decode cX0_add 21 = .ok (.iload_n 1, 1) := by decide +kernel
theorem dX0_add_22 : decode cX0_add 22 = .ok (.iastore, 1) := by decide +kernel
theorem dX0_add_23 : decode cX0_add 23 = .ok (.aload_n 0, 1) := by decide +kernel
theorem dX0_add_24 : decode cX0_add 24 = .ok (.getfield 15, 3) := by decide +kernel
theorem dX0_add_27 : decode cX0_add 27 = .ok (.aload_n 0, 1) := by decide +kernel
theorem dX0_add_28 : decode cX0_add 28 = .ok (.getfield 28, 3) := by decide +kernel
theorem dX0_add_31 : decode cX0_add 31 = .ok (.iload_n 2, 1) := by decide +kernel
theorem dX0_add_32 : decode cX0_add 32 = .ok (.iastore, 1) := by decide +kernel
theorem dX0_add_33 : decode cX0_add 33 = .ok (.aload_n 0, 1) := by decide +kernel
theorem dX0_add_34 : decode cX0_add 34 = .ok (.getfield 18, 3) := by decide +kernel
theorem dX0_add_37 : decode cX0_add 37 = .ok (.aload_n 0, 1) := by decide +kernel
theorem dX0_add_38 : decode cX0_add 38 = .ok (.getfield 28, 3) := by decide +kernel
theorem dX0_add_41 : decode cX0_add 41 = .ok (.iload_n 3, 1) := by decide +kernel
theorem dX0_add_42 : decode cX0_add 42 = .ok (.iastore, 1) := by decide +kernel
theorem dX0_add_43 : decode cX0_add 43 = .ok (.aload_n 0, 1) := by decide +kernel
theorem dX0_add_44 : decode cX0_add 44 = .ok (.getfield 21, 3) := by decide +kernel
theorem dX0_add_47 : decode cX0_add 47 = .ok (.aload_n 0, 1) := by decide +kernel
theorem dX0_add_48 : decode cX0_add 48 = .ok (.getfield 28, 3) := by decide +kernel
theorem dX0_add_51 : decode cX0_add 51 = .ok (.iload 4, 2) := by decide +kernel
theorem dX0_add_53 : decode cX0_add 53 = .ok (.iastore, 1) := by decide +kernel
theorem dX0_add_54 : decode cX0_add 54 = .ok (.aload_n 0, 1) := by decide +kernel
theorem dX0_add_55 : decode cX0_add 55 = .ok (.dup, 1) := by decide +kernel
theorem dX0_add_56 : decode cX0_add 56 = .ok (.getfield 28, 3) := by decide +kernel
theorem dX0_add_59 : decode cX0_add 59 = .ok (.iconst 1, 1) := by decide +kernel
theorem dX0_add_60 : decode cX0_add 60 = .ok (.iadd, 1) := by decide +kernel
theorem dX0_add_61 : decode cX0_add 61 = .ok (.putfield 28, 3) := by decide +kernel
theorem dX0_add_64 : decode cX0_add 64 = .ok (.aload_n 0, 1) := by decide +kernel
theorem dX0_add_65 : decode cX0_add 65 = .ok (.aload_n 0, 1) := by decide +kernel
theorem dX0_add_66 : decode cX0_add 66 = .ok (.getfield 28, 3) := by decide +kernel
theorem dX0_add_69 : decode cX0_add 69 = .ok (.putfield 24, 3) := by decide +kernel
theorem dX0_add_72 : decode cX0_add 72 = .ok (.return_, 1) := by decide +kernel
theorem dX0_forgetOldest_0 : decode cX0_forgetOldest 0 = .ok (.aload_n 0, 1) := by decide +kernel
theorem dX0_forgetOldest_1 : decode cX0_forgetOldest 1 = .ok (.bipush 39, 2) := by decide +kernel
theorem dX0_forgetOldest_3 : decode cX0_forgetOldest 3 = .ok (.putfield 28, 3) := by decide +kernel
theorem dX0_forgetOldest_6 : decode cX0_forgetOldest 6 = .ok (.aload_n 0, 1) := by decide +kernel
theorem dX0_forgetOldest_7 : decode cX0_forgetOldest 7 = .ok (.getfield 9, 3) := by decide +kernel
theorem dX0_forgetOldest_10 : decode cX0_forgetOldest 10 = .ok (.iconst 1, 1) := by decide +kernel
theorem dX0_forgetOldest_11 : decode cX0_forgetOldest 11 = .ok (.aload_n 0, 1) := by decide +kernel
theorem dX0_forgetOldest_12 : decode cX0_forgetOldest 12 = .ok (.getfield 9, 3) := by decide +kernel
theorem dX0_forgetOldest_15 : decode cX0_forgetOldest 15 = .ok (.iconst 0, 1) := by decide +kernel
theorem dX0_forgetOldest_16 : decode cX0_forgetOldest 16 = .ok (.aload_n 0, 1) := by decide +kernel
theorem dX0_forgetOldest_17 : decode cX0_forgetOldest 17 = .ok (.getfield 28, 3) := by decide +kernel
theorem dX0_forgetOldest_20 : decode cX0_forgetOldest 20 = .ok (.invokestatic 34, 3) := by decide +kernel
theorem dX0_forgetOldest_23 : decode cX0_forgetOldest 23 = .ok (.aload_n 0, 1) := by decide +kernel
theorem dX0_forgetOldest_24 : decode cX0_forgetOldest 24 = .ok (.getfield 15, 3) := by decide +kernel
theorem dX0_forgetOldest_27 : decode cX0_forgetOldest 27 = .ok (.iconst 1, 1) := by decide +kernel
theorem dX0_forgetOldest_28 : decode cX0_forgetOldest 28 = .ok (.aload_n 0, 1) := by decide +kernel
theorem dX0_forgetOldest_29 : decode cX0_forgetOldest 29 = .ok (.getfield 15, 3) := by decide +kernel
theorem dX0_forgetOldest_32 : decode cX0_forgetOldest 32 = .ok (.iconst 0, 1) := by decide +kernel
theorem dX0_forgetOldest_33 : decode cX0_forgetOldest 33 = .ok (.aload_n 0, 1) := by decide +kernel
theorem dX0_forgetOldest_34 : decode cX0_forgetOldest 34 = .ok (.getfield 28, 3) := by decide +kernel
theorem dX0_forgetOldest_37 : decode cX0_forgetOldest 37 = .ok (.invokestatic 34, 3) := by decide +kernel
theorem dX0_forgetOldest_40 : decode cX0_forgetOldest 40 = .ok (.aload_n 0, 1) := by decide +kernel
theorem dX0_forgetOldest_41 : decode cX0_forgetOldest 41 = .ok (.getfield 18, 3) := by decide +kernel
theorem dX0_forgetOldest_44 : decode cX0_forgetOldest 44 = .ok (.iconst 1, 1) := by decide +kernel
theorem dX0_forgetOldest_45 : decode cX0_forgetOldest 45 = .ok (.aload_n 0, 1) := by decide +kernel
theorem dX0_forgetOldest_46 : decode cX0_forgetOldest 46 = .ok (.getfield 18, 3) := by decide +kernel
theorem dX0_forgetOldest_49 : decode cX0_forgetOldest 49 = .ok (.iconst 0, 1) := by decide +kernel
theorem dX0_forgetOldest_50 : decode cX0_forgetOldest 50 = .ok (.aload_n 0, 1) := by decide +kernel
theorem dX0_forgetOldest_51 : decode cX0_forgetOldest 51 = .ok (.getfield 28, 3) := by decide +kernel
theorem dX0_forgetOldest_54 : decode cX0_forgetOldest 54 = .ok (.invokestatic 34, 3) := by decide +kernel
theorem dX0_forgetOldest_57 : decode cX0_forgetOldest 57 = .ok (.aload_n 0, 1) := by decide +kernel
theorem dX0_forgetOldest_58 : decode cX0_forgetOldest 58 = .ok (.getfield 21, 3) := by decide +kernel
theorem dX0_forgetOldest_61 : decode cX0_forgetOldest 61 = .ok (.iconst 1, 1) := by decide +kernel
theorem dX0_forgetOldest_62 : decode cX0_forgetOldest 62 = .ok (.aload_n 0, 1) := by decide +kernel
theorem dX0_forgetOldest_63 : decode cX0_forgetOldest 63 = .ok (.getfield 21, 3) := by decide +kernel
theorem dX0_forgetOldest_66 : decode cX0_forgetOldest 66 = .ok (.iconst 0, 1) := by decide +kernel
theorem dX0_forgetOldest_67 : decode cX0_forgetOldest 67 = .ok (.aload_n 0, 1) := by decide +kernel
theorem dX0_forgetOldest_68 : decode cX0_forgetOldest 68 = .ok (.getfield 28, 3) := by decide +kernel
theorem dX0_forgetOldest_71 : decode cX0_forgetOldest 71 = .ok (.invokestatic 34, 3) := by decide +kernel
theorem dX0_forgetOldest_74 : decode cX0_forgetOldest 74 = .ok (.return_, 1) := by decide +kernel
theorem dX0_stepBack_0 : decode cX0_stepBack 0 = .ok (.aload_n 0, 1) := by decide +kernel
theorem dX0_stepBack_1 : decode cX0_stepBack 1 = .ok (.getfield 28, 3) := by decide +kernel
theorem dX0_stepBack_4 : decode cX0_stepBack 4 = .ok (.ifCond .gt 6, 3) := by decide +kernel
theorem dX0_stepBack_7 : decode cX0_stepBack 7 = .ok (.bipush (-5), 2) := by decide +kernel
theorem dX0_stepBack_9 : decode cX0_stepBack 9 = .ok (.ireturn, 1) := by decide +kernel
theorem dX0_stepBack_10 : decode cX0_stepBack 10 = .ok (.aload_n 0, 1) := by decide +kernel
theorem dX0_stepBack_11 : decode cX0_stepBack 11 = .ok (.dup, 1) := by decide +kernel
theorem dX0_stepBack_12 : decode cX0_stepBack 12 = .ok (.getfield 28, 3) := by decide +kernel
theorem dX0_stepBack_15 : decode cX0_stepBack 15 = .ok (.iconst 1, 1) := by decide +kernel
theorem dX0_stepBack_16 : decode cX0_stepBack 16 = .ok (.isub, 1) := by decide +kernel
theorem dX0_stepBack_17 : decode cX0_stepBack 17 = .ok (.putfield 28, 3) := by decide +kernel
theorem dX0_stepBack_20 : decode cX0_stepBack 20 = .ok (.aload_n 1, 1) := by decide +kernel
theorem dX0_stepBack_21 : decode cX0_stepBack 21 = .ok (.aload_n 0, 1) := by decide +kernel
theorem dX0_stepBack_22 : decode cX0_stepBack 22 = .ok (.getfield 9, 3) := by decide +kernel
theorem dX0_stepBack_25 : decode cX0_stepBack 25 = .ok (.aload_n 0, 1) := by decide +kernel
theorem dX0_stepBack_26 : decode cX0_stepBack 26 = .ok (.getfield 28, 3) := by decide +kernel
theorem dX0_stepBack_29 : decode cX0_stepBack 29 = .ok (.iaload, 1) := by decide +kernel
theorem dX0_stepBack_30 : decode cX0_stepBack 30 = .ok (.aload_n 0, 1) := by decide +kernel
theorem dX0_stepBack_31 : decode cX0_stepBack 31 = .ok (.getfield 15, 3) := by decide +kernel
theorem dX0_stepBack_34 : decode cX0_stepBack 34 = .ok (.aload_n 0, 1) := by decide +kernel
theorem dX0_stepBack_35 : decode cX0_stepBack 35 = .ok (.getfield 28, 3) := by decide +kernel
theorem dX0_stepBack_38 : decode cX0_stepBack 38 = .ok (.iaload, 1) := by decide +kernel
theorem dX0_stepBack_39 : decode cX0_stepBack 39 = .ok (.aload_n 0, 1) := by decide +kernel
theorem dX0_stepBack_40 : decode cX0_stepBack 40 = .ok (.getfield 18, 3) := by decide +kernel
theorem dX0_stepBack_43 : decode cX0_stepBack 43 = .ok (.aload_n 0, 1) := by decide +kernel
theorem dX0_stepBack_44 : decode cX0_stepBack 44 = .ok (.getfield 28, 3) := by decide +kernel
theorem dX0_stepBack_47 : decode cX0_stepBack 47 = .ok (.iaload, 1) := by decide +kernel
theorem dX0_stepBack_48 : decode cX0_stepBack 48 = .ok (.invokevirtual 40, 3) := by decide +kernel
theorem dX0_stepBack_51 : decode cX0_stepBack 51 = .ok (.aload_n 0, 1) := by decide +kernel
theorem dX0_stepBack_52 : decode cX0_stepBack 52 = .ok (.getfield 28, 3) := by decide +kernel
theorem dX0_stepBack_55 : decode cX0_stepBack 55 = .ok (.ireturn, 1) := by decide +kernel
theorem dX0_stepOn_0 : decode cX0_stepOn 0 = .ok (.aload_n 0, 1) := by decide +kernel
theorem dX0_stepOn_1 : decode cX0_stepOn 1 = .ok (.getfield 28, 3) := by decide +kernel
theorem dX0_stepOn_4 : decode cX0_stepOn 4 = .ok (.aload_n 0, 1) := by decide +kernel
theorem dX0_stepOn_5 : decode cX0_stepOn 5 = .ok (.getfield 24, 3) := by decide +kernel
theorem dX0_stepOn_8 : decode cX0_stepOn 8 = .ok (.if_icmp .lt 6, 3) := by decide +kernel
theorem dX0_stepOn_11 : decode cX0_stepOn 11 = .ok (.bipush (-5), 2) := by decide +kernel
theorem dX0_stepOn_13 : decode cX0_stepOn 13 = .ok (.ireturn, 1) := by decide +kernel
theorem dX0_stepOn_14 : decode cX0_stepOn 14 = .ok (.aload_n 1, 1) := by decide +kernel
theorem dX0_stepOn_15 : decode cX0_stepOn 15 = .ok (.aload_n 0, 1) := by decide +kernel
theorem dX0_stepOn_16 : decode cX0_stepOn 16 = .ok (.getfield 9, 3) := by decide +kernel
theorem dX0_stepOn_19 : decode cX0_stepOn 19 = .ok (.aload_n 0, 1) := by decide +kernel
theorem dX0_stepOn_20 : decode cX0_stepOn 20 = .ok (.getfield 28, 3) := by decide +kernel
theorem dX0_stepOn_23 : decode cX0_stepOn 23 = .ok (.iaload, 1) := by decide +kernel
theorem dX0_stepOn_24 : decode cX0_stepOn 24 = .ok (.aload_n 0, 1) := by decide +kernel
theorem dX0_stepOn_25 : decode cX0_stepOn 25 = .ok (.getfield 15, 3) := by decide +kernel
theorem dX0_stepOn_28 : decode cX0_stepOn 28 = .ok (.aload_n 0, 1) := by decide +kernel
theorem dX0_stepOn_29 : decode cX0_stepOn 29 = .ok (.getfield 28, 3) := by decide +kernel
theorem dX0_stepOn_32 : decode cX0_stepOn 32 = .ok (.iaload, 1) := by decide +kernel
theorem dX0_stepOn_33 : decode cX0_stepOn 33 = .ok (.aload_n 0, 1) := by decide +kernel
theorem dX0_stepOn_34 : decode cX0_stepOn 34 = .ok (.getfield 21, 3) := by decide +kernel
theorem dX0_stepOn_37 : decode cX0_stepOn 37 = .ok (.aload_n 0, 1) := by decide +kernel
theorem dX0_stepOn_38 : decode cX0_stepOn 38 = .ok (.getfield 28, 3) := by decide +kernel
theorem dX0_stepOn_41 : decode cX0_stepOn 41 = .ok (.iaload, 1) := by decide +kernel
theorem dX0_stepOn_42 : decode cX0_stepOn 42 = .ok (.invokevirtual 40, 3) := by decide +kernel
theorem dX0_stepOn_45 : decode cX0_stepOn 45 = .ok (.aload_n 0, 1) := by decide +kernel
theorem dX0_stepOn_46 : decode cX0_stepOn 46 = .ok (.dup, 1) := by decide +kernel
theorem dX0_stepOn_47 : decode cX0_stepOn 47 = .ok (.getfield 28, 3) := by decide +kernel
theorem dX0_stepOn_50 : decode cX0_stepOn 50 = .ok (.iconst 1, 1) := by decide +kernel
theorem dX0_stepOn_51 : decode cX0_stepOn 51 = .ok (.iadd, 1) := by decide +kernel
theorem dX0_stepOn_52 : decode cX0_stepOn 52 = .ok (.putfield 28, 3) := by decide +kernel
theorem dX0_stepOn_55 : decode cX0_stepOn 55 = .ok (.aload_n 0, 1) := by decide +kernel
theorem dX0_stepOn_56 : decode cX0_stepOn 56 = .ok (.getfield 24, 3) := by decide +kernel
theorem dX0_stepOn_59 : decode cX0_stepOn 59 = .ok (.aload_n 0, 1) := by decide +kernel
theorem dX0_stepOn_60 : decode cX0_stepOn 60 = .ok (.getfield 28, 3) := by decide +kernel
theorem dX0_stepOn_63 : decode cX0_stepOn 63 = .ok (.isub, 1) := by decide +kernel
theorem dX0_stepOn_64 : decode cX0_stepOn 64 = .ok (.ireturn, 1) := by decide +kernel
theorem dX1_init_0 : decode cX1_init 0 = .ok (.aload_n 0, 1) := by decide +kernel
theorem dX1_init_1 : decode cX1_init 1 = .ok (.invokespecial 3, 3) := by decide +kernel
theorem dX1_init_4 : decode cX1_init 4 = .ok (.aload_n 0, 1) := by decide +kernel
theorem dX1_init_5 : decode cX1_init 5 = .ok (.bipush 50, 2) := by decide +kernel
theorem dX1_init_7 : decode cX1_init 7 = .ok (.newarray .int, 2) := by decide +kernel
theorem dX1_init_9 : decode cX1_init 9 = .ok (.putfield 9, 3) := by decide +kernel
theorem dX1_init_12 : decode cX1_init 12 = .ok (.aload_n 0, 1) := by decide +kernel
theorem dX1_init_13 : decode cX1_init 13 = .ok (.iconst 0, 1) := by decide +kernel
theorem dX1_init_14 : decode cX1_init 14 = .ok (.putfield 15, 3) := by decide +kernel
theorem dX1_init_17 : decode cX1_init 17 = .ok (.aload_n 0, 1) := by decide +kernel
theorem dX1_init_18 : decode cX1_init 18 = .ok (.bipush 24, 2) := by decide +kernel
theorem dX1_init_20 : decode cX1_init 20 = .ok (.newarray .int, 2) := by decide +kernel
theorem dX1_init_22 : decode cX1_init 22 = .ok (.putfield 19, 3) := by decide +kernel
theorem dX1_init_25 : decode cX1_init 25 = .ok (.aload_n 0, 1) := by decide +kernel
theorem dX1_init_26 : decode cX1_init 26 = .ok (.iconst 0, 1) := by decide +kernel
theorem dX1_init_27 : decode cX1_init 27 = .ok (.putfield 22, 3) := by decide +kernel
theorem dX1_init_30 : decode cX1_init 30 = .ok (.return_, 1) := by decide +kernel
theorem dX1_isKind_0 : decode cX1_isKind 0 = .ok (.iload_n 0, 1) := by decide +kernel
theorem dX1_isKind_1 : decode cX1_isKind 1 = .ok (.ifCond .lt 13, 3) := by decide +kernel
theorem dX1_isKind_4 : decode cX1_isKind 4 = .ok (.iload_n 0, 1) := by decide +kernel
theorem dX1_isKind_5 : decode cX1_isKind 5 = .ok (.bipush 8, 2) := by decide +kernel
theorem dX1_isKind_7 : decode cX1_isKind 7 = .ok (.if_icmp .ge 7, 3) := by decide +kernel
theorem dX1_isKind_10 : decode cX1_isKind 10 = .ok (.iconst 1, 1) := by decide +kernel
theorem dX1_isKind_11 : decode cX1_isKind 11 = .ok (.goto 4, 3) := by decide +kernel
theorem dX1_isKind_14 : decode cX1_isKind 14 = .ok (.iconst 0, 1) := by decide +kernel
theorem dX1_isKind_15 : decode cX1_isKind 15 = .ok (.ireturn, 1) := by decide +kernel
theorem dX1_hasBody_0 : decode cX1_hasBody 0 = .ok (.iload_n 1, 1) := by decide +kernel
theorem dX1_hasBody_1 : decode cX1_hasBody 1 = .ok (.ifCond .lt 15, 3) := by decide +kernel
theorem dX1_hasBody_4 : decode cX1_hasBody 4 = .ok (.iload_n 1, 1) := by decide +kernel
theorem dX1_hasBody_5 : decode cX1_hasBody 5 = .ok (.aload_n 0, 1) := by decide +kernel
theorem dX1_hasBody_6 : decode cX1_hasBody 6 = .ok (.getfield 15, 3) := by decide +kernel
theorem dX1_hasBody_9 : decode cX1_hasBody 9 = .ok (.if_icmp .ge 7, 3) := by decide +kernel
theorem dX1_hasBody_12 : decode cX1_hasBody 12 = .ok (.iconst 1, 1) := by decide +kernel
theorem dX1_hasBody_13 : decode cX1_hasBody 13 = .ok (.goto 4, 3) := by decide +kernel
theorem dX1_hasBody_16 : decode cX1_hasBody 16 = .ok (.iconst 0, 1) := by decide +kernel
theorem dX1_hasBody_17 : decode cX1_hasBody 17 = .ok (.ireturn, 1) := by decide +kernel
theorem dX1_add_0 : decode cX1_add 0 = .ok (.aload_n 0, 1) := by decide +kernel
theorem dX1_add_1 : decode cX1_add 1 = .ok (.getfield 15, 3) := by decide +kernel
theorem dX1_add_4 : decode cX1_add 4 = .ok (.bipush 50, 2) := by decide +kernel
theorem dX1_add_6 : decode cX1_add 6 = .ok (.if_icmp .lt 6, 3) := by decide +kernel
theorem dX1_add_9 : decode cX1_add 9 = .ok (.bipush (-3), 2) := by decide +kernel
theorem dX1_add_11 : decode cX1_add 11 = .ok (.ireturn, 1) := by decide +kernel
theorem dX1_add_12 : decode cX1_add 12 = .ok (.aload_n 0, 1) := by decide +kernel
theorem dX1_add_13 : decode cX1_add 13 = .ok (.getfield 9, 3) := by decide +kernel
theorem dX1_add_16 : decode cX1_add 16 = .ok (.aload_n 0, 1) := by decide +kernel
theorem dX1_add_17 : decode cX1_add 17 = .ok (.getfield 15, 3) := by decide +kernel
theorem dX1_add_20 : decode cX1_add 20 = .ok (.iload_n 1, 1) := by decide +kernel
theorem dX1_add_21 : decode cX1_add 21 = .ok (.iastore, 1) := by decide +kernel
theorem dX1_add_22 : decode cX1_add 22 = .ok (.aload_n 0, 1) := by decide +kernel
theorem dX1_add_23 : decode cX1_add 23 = .ok (.dup, 1) := by decide +kernel
theorem dX1_add_24 : decode cX1_add 24 = .ok (.getfield 15, 3) := by decide +kernel
theorem dX1_add_27 : decode cX1_add 27 = .ok (.iconst 1, 1) := by decide +kernel
theorem dX1_add_28 : decode cX1_add 28 = .ok (.iadd, 1) := by decide +kernel
theorem dX1_add_29 : decode cX1_add 29 = .ok (.putfield 15, 3) := by decide +kernel
theorem dX1_add_32 : decode cX1_add 32 = .ok (.aload_n 0, 1) := by decide +kernel
theorem dX1_add_33 : decode cX1_add 33 = .ok (.getfield 15, 3) := by decide +kernel
theorem dX1_add_36 : decode cX1_add 36 = .ok (.iconst 1, 1) := by decide +kernel
theorem dX1_add_37 : decode cX1_add 37 = .ok (.isub, 1) := by decide +kernel
theorem dX1_add_38 : decode cX1_add 38 = .ok (.ireturn, 1) := by decide +kernel
theorem dX1_isOfKind_0 : decode cX1_isOfKind 0 = .ok (.aload_n 0, 1) := by decide +kernel
theorem dX1_isOfKind_1 : decode cX1_isOfKind 1 = .ok (.iload_n 1, 1) := by decide +kernel
theorem dX1_isOfKind_2 : decode cX1_isOfKind 2 = .ok (.invokevirtual 25, 3) := by decide +kernel
theorem dX1_isOfKind_5 : decode cX1_isOfKind 5 = .ok (.ifCond .ne 5, 3) := by decide +kernel
theorem dX1_isOfKind_8 : decode cX1_isOfKind 8 = .ok (.iconst 0, 1) := by decide +kernel
theorem dX1_isOfKind_9 : decode cX1_isOfKind 9 = .ok (.ireturn, 1) := by decide +kernel
theorem dX1_isOfKind_10 : decode cX1_isOfKind 10 = .ok (.aload_n 0, 1) := by decide +kernel
theorem dX1_isOfKind_11 : decode cX1_isOfKind 11 = .ok (.getfield 9, 3) := by decide +kernel
theorem dX1_isOfKind_14 : decode cX1_isOfKind 14 = .ok (.iload_n 1, 1) := by decide +kernel
theorem dX1_isOfKind_15 : decode cX1_isOfKind 15 = .ok (.iaload, 1) := by decide +kernel
theorem dX1_isOfKind_16 : decode cX1_isOfKind 16 = .ok (.istore_n 3, 1) := by decide +kernel
theorem dX1_isOfKind_17 : decode cX1_isOfKind 17 = .ok (.iconst 0, 1) := by decide +kernel
theorem dX1_isOfKind_18 : decode cX1_isOfKind 18 = .ok (.istore 4, 2) := by decide +kernel
theorem dX1_isOfKind_20 : decode cX1_isOfKind 20 = .ok (.iload 4, 2) := by decide +kernel
theorem dX1_isOfKind_22 : decode cX1_isOfKind 22 = .ok (.bipush 8, 2) := by decide +kernel
theorem dX1_isOfKind_24 : decode cX1_isOfKind 24 = .ok (.if_icmp .ge 20, 3) := by decide +kernel
theorem dX1_isOfKind_27 : decode cX1_isOfKind 27 = .ok (.iload_n 3, 1) := by decide +kernel
theorem dX1_isOfKind_28 : decode cX1_isOfKind 28 = .ok (.iload_n 2, 1) := by decide +kernel
theorem dX1_isOfKind_29 : decode cX1_isOfKind 29 = .ok (.if_icmp .eq 15, 3) := by decide +kernel
theorem dX1_isOfKind_32 : decode cX1_isOfKind 32 = .ok (.getstatic 29, 3) := by decide +kernel
theorem dX1_isOfKind_35 : decode cX1_isOfKind 35 = .ok (.iload_n 3, 1) := by decide +kernel
theorem dX1_isOfKind_36 : decode cX1_isOfKind 36 = .ok (.iaload, 1) := by decide +kernel
theorem dX1_isOfKind_37 : decode cX1_isOfKind 37 = .ok (.istore_n 3, 1) := by decide +kernel
theorem dX1_isOfKind_38 : decode cX1_isOfKind 38 = .ok (.iinc 4 1, 3) := by decide +kernel
theorem dX1_isOfKind_41 : decode cX1_isOfKind 41 = .ok (.goto (-21), 3) := by decide +kernel
theorem dX1_isOfKind_44 : decode cX1_isOfKind 44 = .ok (.iload_n 3, 1) := by decide +kernel
theorem dX1_isOfKind_45 : decode cX1_isOfKind 45 = .ok (.iload_n 2, 1) := by decide +kernel
theorem dX1_isOfKind_46 : decode cX1_isOfKind 46 = .ok (.if_icmp .ne 7, 3) := by decide +kernel
theorem dX1_isOfKind_49 : decode cX1_isOfKind 49 = .ok (.iconst 1, 1) := by decide +kernel
theorem dX1_isOfKind_50 : decode cX1_isOfKind 50 = .ok (.goto 4, 3) := by decide +kernel
theorem dX1_isOfKind_53 : decode cX1_isOfKind 53 = .ok (.iconst 0, 1) := by decide +kernel
theorem dX1_isOfKind_54 : decode cX1_isOfKind 54 = .ok (.ireturn, 1) := by decide +kernel
theorem dX1_perform_0 : decode cX1_perform 0 = .ok (.aload_n 0, 1) := by decide +kernel
theorem dX1_perform_1 : decode cX1_perform 1 = .ok (.iconst 0, 1) := by decide +kernel
theorem dX1_perform_2 : decode cX1_perform 2 = .ok (.putfield 22, 3) := by decide +kernel
theorem dX1_perform_5 : decode cX1_perform 5 = .ok (.aload_n 0, 1) := by decide +kernel
theorem dX1_perform_6 : decode cX1_perform 6 = .ok (.iload_n 1, 1) := by decide +kernel
theorem dX1_perform_7 : decode cX1_perform 7 = .ok (.invokevirtual 25, 3) := by decide +kernel
theorem dX1_perform_10 : decode cX1_perform 10 = .ok (.ifCond .eq 12, 3) := by decide +kernel
theorem dX1_perform_13 : decode cX1_perform 13 = .ok (.iload_n 2, 1) := by decide +kernel
theorem dX1_perform_14 : decode cX1_perform 14 = .ok (.ifCond .lt 8, 3) := by decide +kernel
theorem dX1_perform_17 : decode cX1_perform 17 = .ok (.iload_n 2, 1) := by decide +kernel
theorem dX1_perform_18 : decode cX1_perform 18 = .ok (.iconst 4, 1) := by decide +kernel
theorem dX1_perform_19 : decode cX1_perform 19 = .ok (.if_icmp .lt 5, 3) := by decide +kernel
theorem dX1_perform_22 : decode cX1_perform 22 = .ok (.iconst 0, 1) := by decide +kernel
theorem dX1_perform_23 : decode cX1_perform 23 = .ok (.ireturn, 1) := by decide +kernel
theorem dX1_perform_24 : decode cX1_perform 24 = .ok (.aload_n 0, 1) := by decide +kernel
theorem dX1_perform_25 : decode cX1_perform 25 = .ok (.iload_n 1, 1) := by decide +kernel
theorem dX1_perform_26 : decode cX1_perform 26 = .ok (.iload_n 2, 1) := by decide +kernel
theorem dX1_perform_27 : decode cX1_perform 27 = .ok (.iload_n 3, 1) := by decide +kernel
theorem dX1_perform_28 : decode cX1_perform 28 = .ok (.iconst 0, 1) := by decide +kernel
theorem dX1_perform_29 : decode cX1_perform 29 = .ok (.invokevirtual 32, 3) := by decide +kernel
theorem dX1_perform_32 : decode cX1_perform 32 = .ok (.ireturn, 1) := by decide +kernel
theorem dX1_own_0 : decode cX1_own 0 = .ok (.aload_n 0, 1) := by decide +kernel
theorem dX1_own_1 : decode cX1_own 1 = .ok (.iload_n 1, 1) := by decide +kernel
theorem dX1_own_2 : decode cX1_own 2 = .ok (.aload_n 0, 1) := by decide +kernel
theorem dX1_own_3 : decode cX1_own 3 = .ok (.getfield 9, 3) := by decide +kernel
theorem dX1_own_6 : decode cX1_own 6 = .ok (.iload_n 1, 1) := by decide +kernel
theorem dX1_own_7 : decode cX1_own 7 = .ok (.iaload, 1) := by decide +kernel
theorem dX1_own_8 : decode cX1_own 8 = .ok (.iload_n 2, 1) := by decide +kernel
theorem dX1_own_9 : decode cX1_own 9 = .ok (.iload_n 3, 1) := by decide +kernel
theorem dX1_own_10 : decode cX1_own 10 = .ok (.iload 4, 2) := by decide +kernel
theorem dX1_own_12 : decode cX1_own 12 = .ok (.iconst 1, 1) := by decide +kernel
theorem dX1_own_13 : decode cX1_own 13 = .ok (.iadd, 1) := by decide +kernel
theorem dX1_own_14 : decode cX1_own 14 = .ok (.invokevirtual 36, 3) := by decide +kernel
theorem dX1_own_17 : decode cX1_own 17 = .ok (.ireturn, 1) := by decide +kernel
theorem dX1_above_0 : decode cX1_above 0 = .ok (.aload_n 0, 1) := by decide +kernel
theorem dX1_above_1 : decode cX1_above 1 = .ok (.iload_n 1, 1) := by decide +kernel
theorem dX1_above_2 : decode cX1_above 2 = .ok (.getstatic 29, 3) := by decide +kernel
theorem dX1_above_5 : decode cX1_above 5 = .ok (.iload_n 2, 1) := by decide +kernel
theorem dX1_above_6 : decode cX1_above 6 = .ok (.iaload, 1) := by decide +kernel
theorem dX1_above_7 : decode cX1_above 7 = .ok (.iload_n 3, 1) := by decide +kernel
theorem dX1_above_8 : decode cX1_above 8 = .ok (.iload 4, 2) := by decide +kernel
theorem dX1_above_10 : decode cX1_above 10 = .ok (.iload 5, 2) := by decide +kernel
theorem dX1_above_12 : decode cX1_above 12 = .ok (.iconst 1, 1) := by decide +kernel
theorem dX1_above_13 : decode cX1_above 13 = .ok (.iadd, 1) := by decide +kernel
theorem dX1_above_14 : decode cX1_above 14 = .ok (.invokevirtual 36, 3) := by decide +kernel
theorem dX1_above_17 : decode cX1_above 17 = .ok (.ireturn, 1) := by decide +kernel
theorem dX1_run_0 : decode cX1_run 0 = .ok (.iload 5, 2) := by decide +kernel
theorem dX1_run_2 : decode cX1_run 2 = .ok (.bipush 20, 2) := by decide +kernel
theorem dX1_run_4 : decode cX1_run 4 = .ok (.if_icmp .le 5, 3) := by decide +kernel
theorem dX1_run_7 : decode cX1_run 7 = .ok (.iconst 0, 1) := by decide +kernel
theorem dX1_run_8 : decode cX1_run 8 = .ok (.ireturn, 1) := by decide +kernel
theorem dX1_run_9 : decode cX1_run 9 = .ok (.iload_n 2, 1) := by decide +kernel
theorem dX1_run_10 : decode cX1_run 10 = .ok (.istore 6, 2) := by decide +kernel
theorem dX1_run_12 : decode cX1_run 12 = .ok (.iconst 0, 1) := by decide +kernel
theorem dX1_run_13 : decode cX1_run 13 = .ok (.istore 7, 2) := by decide +kernel
theorem dX1_run_15 : decode cX1_run 15 = .ok (.iload 7, 2) := by decide +kernel
theorem dX1_run_17 : decode cX1_run 17 = .ok (.bipush 8, 2) := by decide +kernel
theorem dX1_run_19 : decode cX1_run 19 = .ok (.if_icmp .ge 30, 3) := by decide +kernel
theorem dX1_run_22 : decode cX1_run 22 = .ok (.getstatic 40, 3) := by decide +kernel
theorem dX1_run_25 : decode cX1_run 25 = .ok (.iload 6, 2) := by decide +kernel
theorem dX1_run_27 : decode cX1_run 27 = .ok (.iconst 4, 1) := by decide +kernel
theorem dX1_run_28 : decode cX1_run 28 = .ok (.imul, 1) := by decide +kernel
theorem dX1_run_29 : decode cX1_run 29 = .ok (.iload_n 3, 1) := by decide +kernel
theorem dX1_run_30 : decode cX1_run 30 = .ok (.iadd, 1) := by decide +kernel
theorem dX1_run_31 : decode cX1_run 31 = .ok (.iaload, 1) := by decide +kernel
theorem dX1_run_32 : decode cX1_run 32 = .ok (.ifCond .ne 17, 3) := by decide +kernel
theorem dX1_run_35 : decode cX1_run 35 = .ok (.getstatic 29, 3) := by decide +kernel
theorem dX1_run_38 : decode cX1_run 38 = .ok (.iload 6, 2) := by decide +kernel
theorem dX1_run_40 : decode cX1_run 40 = .ok (.iaload, 1) := by decide +kernel
theorem dX1_run_41 : decode cX1_run 41 = .ok (.istore 6, 2) := by decide +kernel
theorem dX1_run_43 : decode cX1_run 43 = .ok (.iinc 7 1, 3) := by decide +kernel
theorem dX1_run_46 : decode cX1_run 46 = .ok (.goto (-31), 3) := by decide +kernel
theorem dX1_run_49 : decode cX1_run 49 = .ok (.getstatic 40, 3) := by decide +kernel
theorem dX1_run_52 : decode cX1_run 52 = .ok (.iload 6, 2) := by decide +kernel
theorem dX1_run_54 : decode cX1_run 54 = .ok (.iconst 4, 1) := by decide +kernel
theorem dX1_run_55 : decode cX1_run 55 = .ok (.imul, 1) := by decide +kernel
theorem dX1_run_56 : decode cX1_run 56 = .ok (.iload_n 3, 1) := by decide +kernel
theorem dX1_run_57 : decode cX1_run 57 = .ok (.iadd, 1) := by decide +kernel
theorem dX1_run_58 : decode cX1_run 58 = .ok (.iaload, 1) := by decide +kernel
theorem dX1_run_59 : decode cX1_run 59 = .ok (.istore 7, 2) := by decide +kernel
theorem dX1_run_61 : decode cX1_run 61 = .ok (.aload_n 0, 1) := by decide +kernel
theorem dX1_run_62 : decode cX1_run 62 = .ok (.iload 7, 2) := by decide +kernel
theorem dX1_run_64 : decode cX1_run 64 = .ok (.invokevirtual 43, 3) := by decide +kernel
theorem dX1_run_67 : decode cX1_run 67 = .ok (.iload 7, 2) := by decide +kernel
theorem dX1_run_69 : decode cX1_run 69 = .ok (.lookupswitch 309 #[(1, 115), (2, 120), (10, 141), (11, 154), (20, 159), (30, 174), (40, 188), (41, 203), (50, 218), (60, 241), (70, 256), (80, 271), (81, 294)], 115) := by decide +kernel
theorem dX1_run_184 : decode cX1_run 184 = .ok (.iload 4, 2) := by decide +kernel
theorem dX1_run_186 : decode cX1_run 186 = .ok (.iload_n 1, 1) := by decide +kernel
theorem dX1_run_187 : decode cX1_run 187 = .ok (.iadd, 1) := by decide +kernel
theorem dX1_run_188 : decode cX1_run 188 = .ok (.ireturn, 1) := by decide +kernel
theorem dX1_run_189 : decode cX1_run 189 = .ok (.aload_n 0, 1) := by decide +kernel
theorem dX1_run_190 : decode cX1_run 190 = .ok (.iload_n 1, 1) := by decide +kernel
theorem dX1_run_191 : decode cX1_run 191 = .ok (.iconst 1, 1) := by decide +kernel
theorem dX1_run_192 : decode cX1_run 192 = .ok (.iload 4, 2) := by decide +kernel
theorem dX1_run_194 : decode cX1_run 194 = .ok (.iload 5, 2) := by decide +kernel
theorem dX1_run_196 : decode cX1_run 196 = .ok (.invokevirtual 32, 3) := by decide +kernel
theorem dX1_run_199 : decode cX1_run 199 = .ok (.aload_n 0, 1) := by decide +kernel
theorem dX1_run_200 : decode cX1_run 200 = .ok (.iload_n 1, 1) := by decide +kernel
theorem dX1_run_201 : decode cX1_run 201 = .ok (.iconst 2, 1) := by decide +kernel
theorem dX1_run_202 : decode cX1_run 202 = .ok (.iconst 1, 1) := by decide +kernel
theorem dX1_run_203 : decode cX1_run 203 = .ok (.iload 5, 2) := by decide +kernel
theorem dX1_run_205 : decode cX1_run 205 = .ok (.invokevirtual 32, 3) := by decide +kernel
theorem dX1_run_208 : decode cX1_run 208 = .ok (.isub, 1) := by decide +kernel
theorem dX1_run_209 : decode cX1_run 209 = .ok (.ireturn, 1) := by decide +kernel
theorem dX1_run_210 : decode cX1_run 210 = .ok (.aload_n 0, 1) := by decide +kernel
theorem dX1_run_211 : decode cX1_run 211 = .ok (.iload_n 1, 1) := by decide +kernel
theorem dX1_run_212 : decode cX1_run 212 = .ok (.iconst 0, 1) := by decide +kernel
theorem dX1_run_213 : decode cX1_run 213 = .ok (.iload 4, 2) := by decide +kernel
theorem dX1_run_215 : decode cX1_run 215 = .ok (.iload 5, 2) := by decide +kernel
theorem dX1_run_217 : decode cX1_run 217 = .ok (.invokevirtual 32, 3) := by decide +kernel
theorem dX1_run_220 : decode cX1_run 220 = .ok (.iconst 2, 1) := by decide +kernel
theorem dX1_run_221 : decode cX1_run 221 = .ok (.imul, 1) := by decide +kernel
theorem dX1_run_222 : decode cX1_run 222 = .ok (.ireturn, 1) := by decide +kernel
theorem dX1_run_223 : decode cX1_run 223 = .ok (.iload 4, 2) := by decide +kernel
theorem dX1_run_225 : decode cX1_run 225 = .ok (.iload_n 1, 1) := by decide +kernel
theorem dX1_run_226 : decode cX1_run 226 = .ok (.ixor, 1) := by decide +kernel
theorem dX1_run_227 : decode cX1_run 227 = .ok (.ireturn, 1) := by decide +kernel
theorem dX1_run_228 : decode cX1_run 228 = .ok (.aload_n 0, 1) := by decide +kernel
theorem dX1_run_229 : decode cX1_run 229 = .ok (.iload_n 1, 1) := by decide +kernel
theorem dX1_run_230 : decode cX1_run 230 = .ok (.iload 6, 2) := by decide +kernel
theorem dX1_run_232 : decode cX1_run 232 = .ok (.iconst 0, 1) := by decide +kernel
theorem dX1_run_233 : decode cX1_run 233 = .ok (.iload 4, 2) := by decide +kernel
theorem dX1_run_235 : decode cX1_run 235 = .ok (.iload 5, 2) := by decide +kernel
theorem dX1_run_237 : decode cX1_run 237 = .ok (.invokevirtual 47, 3) := by decide +kernel
theorem dX1_run_240 : decode cX1_run 240 = .ok (.iconst 3, 1) := by decide +kernel
theorem dX1_run_241 : decode cX1_run 241 = .ok (.iadd, 1) := by decide +kernel
theorem dX1_run_242 : decode cX1_run 242 = .ok (.ireturn, 1) := by decide +kernel
theorem dX1_run_243 : decode cX1_run 243 = .ok (.aload_n 0, 1) := by decide +kernel
theorem dX1_run_244 : decode cX1_run 244 = .ok (.iload_n 1, 1) := by decide +kernel
theorem dX1_run_245 : decode cX1_run 245 = .ok (.iload 6, 2) := by decide +kernel
theorem dX1_run_247 : decode cX1_run 247 = .ok (.iconst 1, 1) := by decide +kernel
theorem dX1_run_248 : decode cX1_run 248 = .ok (.iload 4, 2) := by decide +kernel
theorem dX1_run_250 : decode cX1_run 250 = .ok (.iload 5, 2) := by decide +kernel
theorem dX1_run_252 : decode cX1_run 252 = .ok (.invokevirtual 47, 3) := by decide +kernel
theorem dX1_run_255 : decode cX1_run 255 = .ok (.ineg, 1) := by decide +kernel
theorem dX1_run_256 : decode cX1_run 256 = .ok (.ireturn, 1) := by decide +kernel
theorem dX1_run_257 : decode cX1_run 257 = .ok (.aload_n 0, 1) := by decide +kernel
theorem dX1_run_258 : decode cX1_run 258 = .ok (.iload_n 1, 1) := by decide +kernel
theorem dX1_run_259 : decode cX1_run 259 = .ok (.iload 6, 2) := by decide +kernel
theorem dX1_run_261 : decode cX1_run 261 = .ok (.iconst 2, 1) := by decide +kernel
theorem dX1_run_262 : decode cX1_run 262 = .ok (.iload 4, 2) := by decide +kernel
theorem dX1_run_264 : decode cX1_run 264 = .ok (.iload 5, 2) := by decide +kernel
theorem dX1_run_266 : decode cX1_run 266 = .ok (.invokevirtual 47, 3) := by decide +kernel
theorem dX1_run_269 : decode cX1_run 269 = .ok (.iconst 3, 1) := by decide +kernel
theorem dX1_run_270 : decode cX1_run 270 = .ok (.imul, 1) := by decide +kernel
theorem dX1_run_271 : decode cX1_run 271 = .ok (.ireturn, 1) := by decide +kernel
theorem dX1_run_272 : decode cX1_run 272 = .ok (.aload_n 0, 1) := by decide +kernel
theorem dX1_run_273 : decode cX1_run 273 = .ok (.iload_n 1, 1) := by decide +kernel
theorem dX1_run_274 : decode cX1_run 274 = .ok (.iload 6, 2) := by decide +kernel
theorem dX1_run_276 : decode cX1_run 276 = .ok (.iconst 1, 1) := by decide +kernel
theorem dX1_run_277 : decode cX1_run 277 = .ok (.iload 4, 2) := by decide +kernel
theorem dX1_run_279 : decode cX1_run 279 = .ok (.iconst 1, 1) := by decide +kernel
theorem dX1_run_280 : decode cX1_run 280 = .ok (.iadd, 1) := by decide +kernel
theorem dX1_run_281 : decode cX1_run 281 = .ok (.iload 5, 2) := by decide +kernel
theorem dX1_run_283 : decode cX1_run 283 = .ok (.invokevirtual 47, 3) := by decide +kernel
theorem dX1_run_286 : decode cX1_run 286 = .ok (.ireturn, 1) := by decide +kernel
theorem dX1_run_287 : decode cX1_run 287 = .ok (.aload_n 0, 1) := by decide +kernel
theorem dX1_run_288 : decode cX1_run 288 = .ok (.iload_n 1, 1) := by decide +kernel
theorem dX1_run_289 : decode cX1_run 289 = .ok (.iload 6, 2) := by decide +kernel
theorem dX1_run_291 : decode cX1_run 291 = .ok (.iconst 2, 1) := by decide +kernel
theorem dX1_run_292 : decode cX1_run 292 = .ok (.iload 4, 2) := by decide +kernel
theorem dX1_run_294 : decode cX1_run 294 = .ok (.iload 5, 2) := by decide +kernel
theorem dX1_run_296 : decode cX1_run 296 = .ok (.invokevirtual 47, 3) := by decide +kernel
theorem dX1_run_299 : decode cX1_run 299 = .ok (.aload_n 0, 1) := by decide +kernel
theorem dX1_run_300 : decode cX1_run 300 = .ok (.iload_n 1, 1) := by decide +kernel
theorem dX1_run_301 : decode cX1_run 301 = .ok (.iconst 0, 1) := by decide +kernel
theorem dX1_run_302 : decode cX1_run 302 = .ok (.iconst 2, 1) := by decide +kernel
theorem dX1_run_303 : decode cX1_run 303 = .ok (.iload 5, 2) := by decide +kernel
theorem dX1_run_305 : decode cX1_run 305 = .ok (.invokevirtual 32, 3) := by decide +kernel
theorem dX1_run_308 : decode cX1_run 308 = .ok (.isub, 1) := by decide +kernel
theorem dX1_run_309 : decode cX1_run 309 = .ok (.ireturn, 1) := by decide +kernel
theorem dX1_run_310 : decode cX1_run 310 = .ok (.aload_n 0, 1) := by decide +kernel
theorem dX1_run_311 : decode cX1_run 311 = .ok (.iload_n 1, 1) := by decide +kernel
theorem dX1_run_312 : decode cX1_run 312 = .ok (.iload 6, 2) := by decide +kernel
theorem dX1_run_314 : decode cX1_run 314 = .ok (.iconst 3, 1) := by decide +kernel
theorem dX1_run_315 : decode cX1_run 315 = .ok (.iload 4, 2) := by decide +kernel
theorem dX1_run_317 : decode cX1_run 317 = .ok (.iload 5, 2) := by decide +kernel
theorem dX1_run_319 : decode cX1_run 319 = .ok (.invokevirtual 47, 3) := by decide +kernel
theorem dX1_run_322 : decode cX1_run 322 = .ok (.iconst 5, 1) := by decide +kernel
theorem dX1_run_323 : decode cX1_run 323 = .ok (.ixor, 1) := by decide +kernel
theorem dX1_run_324 : decode cX1_run 324 = .ok (.ireturn, 1) := by decide +kernel
theorem dX1_run_325 : decode cX1_run 325 = .ok (.aload_n 0, 1) := by decide +kernel
theorem dX1_run_326 : decode cX1_run 326 = .ok (.iload_n 1, 1) := by decide +kernel
theorem dX1_run_327 : decode cX1_run 327 = .ok (.iload 6, 2) := by decide +kernel
theorem dX1_run_329 : decode cX1_run 329 = .ok (.iconst 0, 1) := by decide +kernel
theorem dX1_run_330 : decode cX1_run 330 = .ok (.iload 4, 2) := by decide +kernel
theorem dX1_run_332 : decode cX1_run 332 = .ok (.iload 5, 2) := by decide +kernel
theorem dX1_run_334 : decode cX1_run 334 = .ok (.invokevirtual 47, 3) := by decide +kernel
theorem dX1_run_337 : decode cX1_run 337 = .ok (.iconst 2, 1) := by decide +kernel
theorem dX1_run_338 : decode cX1_run 338 = .ok (.imul, 1) := by decide +kernel
theorem dX1_run_339 : decode cX1_run 339 = .ok (.ireturn, 1) := by decide +kernel
theorem dX1_run_340 : decode cX1_run 340 = .ok (.aload_n 0, 1) := by decide +kernel
theorem dX1_run_341 : decode cX1_run 341 = .ok (.iload_n 1, 1) := by decide +kernel
theorem dX1_run_342 : decode cX1_run 342 = .ok (.iload 6, 2) := by decide +kernel
theorem dX1_run_344 : decode cX1_run 344 = .ok (.iconst 1, 1) := by decide +kernel
theorem dX1_run_345 : decode cX1_run 345 = .ok (.iload 4, 2) := by decide +kernel
theorem dX1_run_347 : decode cX1_run 347 = .ok (.iload 5, 2) := by decide +kernel
theorem dX1_run_349 : decode cX1_run 349 = .ok (.invokevirtual 47, 3) := by decide +kernel
theorem dX1_run_352 : decode cX1_run 352 = .ok (.aload_n 0, 1) := by decide +kernel
theorem dX1_run_353 : decode cX1_run 353 = .ok (.iload_n 1, 1) := by decide +kernel
theorem dX1_run_354 : decode cX1_run 354 = .ok (.iconst 2, 1) := by decide +kernel
theorem dX1_run_355 : decode cX1_run 355 = .ok (.iconst 2, 1) := by decide +kernel
theorem dX1_run_356 : decode cX1_run 356 = .ok (.iload 5, 2) := by decide +kernel
theorem dX1_run_358 : decode cX1_run 358 = .ok (.invokevirtual 32, 3) := by decide +kernel
theorem dX1_run_361 : decode cX1_run 361 = .ok (.iadd, 1) := by decide +kernel
theorem dX1_run_362 : decode cX1_run 362 = .ok (.ireturn, 1) := by decide +kernel
theorem dX1_run_363 : decode cX1_run 363 = .ok (.aload_n 0, 1) := by decide +kernel
theorem dX1_run_364 : decode cX1_run 364 = .ok (.iload_n 1, 1) := by decide +kernel
theorem dX1_run_365 : decode cX1_run 365 = .ok (.iload 6, 2) := by decide +kernel
theorem dX1_run_367 : decode cX1_run 367 = .ok (.iconst 3, 1) := by decide +kernel
theorem dX1_run_368 : decode cX1_run 368 = .ok (.iload 4, 2) := by decide +kernel
theorem dX1_run_370 : decode cX1_run 370 = .ok (.iload 5, 2) := by decide +kernel
theorem dX1_run_372 : decode cX1_run 372 = .ok (.invokevirtual 47, 3) := by decide +kernel
theorem dX1_run_375 : decode cX1_run 375 = .ok (.iconst 1, 1) := by decide +kernel
theorem dX1_run_376 : decode cX1_run 376 = .ok (.isub, 1) := by decide +kernel
theorem dX1_run_377 : decode cX1_run 377 = .ok (.ireturn, 1) := by decide +kernel
theorem dX1_run_378 : decode cX1_run 378 = .ok (.iconst 0, 1) := by decide +kernel
theorem dX1_run_379 : decode cX1_run 379 = .ok (.ireturn, 1) := by decide +kernel
theorem dX1_note_0 : decode cX1_note 0 = .ok (.aload_n 0, 1) := by decide +kernel
theorem dX1_note_1 : decode cX1_note 1 = .ok (.getfield 22, 3) := by decide +kernel
theorem dX1_note_4 : decode cX1_note 4 = .ok (.bipush 24, 2) := by decide +kernel
theorem dX1_note_6 : decode cX1_note 6 = .ok (.if_icmp .ge 13, 3) := by decide +kernel
theorem dX1_note_9 : decode cX1_note 9 = .ok (.aload_n 0, 1) := by decide +kernel
theorem dX1_note_10 : decode cX1_note 10 = .ok (.getfield 19, 3) := by decide +kernel
theorem dX1_note_13 : decode cX1_note 13 = .ok (.aload_n 0, 1) := by decide +kernel
theorem dX1_note_14 : decode cX1_note 14 = .ok (.getfield 22, 3) := by decide +kernel
theorem dX1_note_17 : decode cX1_note 17 = .ok (.iload_n 1, 1) := by decide +kernel
theorem dX1_note_18 : decode cX1_note 18 = .ok (.iastore, 1) := by decide +kernel
theorem dX1_note_19 : decode cX1_note 19 = .ok (.aload_n 0, 1) := by decide +kernel
theorem dX1_note_20 : decode cX1_note 20 = .ok (.dup, 1) := by decide +kernel
theorem dX1_note_21 : decode cX1_note 21 = .ok (.getfield 22, 3) := by decide +kernel
theorem dX1_note_24 : decode cX1_note 24 = .ok (.iconst 1, 1) := by decide +kernel
theorem dX1_note_25 : decode cX1_note 25 = .ok (.iadd, 1) := by decide +kernel
theorem dX1_note_26 : decode cX1_note 26 = .ok (.putfield 22, 3) := by decide +kernel
theorem dX1_note_29 : decode cX1_note 29 = .ok (.return_, 1) := by decide +kernel
theorem dX2_init_0 : decode cX2_init 0 = .ok (.aload_n 0, 1) := by decide +kernel
theorem dX2_init_1 : decode cX2_init 1 = .ok (.invokespecial 3, 3) := by decide +kernel
theorem dX2_init_4 : decode cX2_init 4 = .ok (.aload_n 0, 1) := by decide +kernel
theorem dX2_init_5 : decode cX2_init 5 = .ok (.bipush 9, 2) := by decide +kernel
theorem dX2_init_7 : decode cX2_init 7 = .ok (.newarray .int, 2) := by decide +kernel
theorem dX2_init_9 : decode cX2_init 9 = .ok (.putfield 9, 3) := by decide +kernel
theorem dX2_init_12 : decode cX2_init 12 = .ok (.aload_n 0, 1) := by decide +kernel
theorem dX2_init_13 : decode cX2_init 13 = .ok (.bipush 9, 2) := by decide +kernel
theorem dX2_init_15 : decode cX2_init 15 = .ok (.newarray .int, 2) := by decide +kernel
theorem dX2_init_17 : decode cX2_init 17 = .ok (.putfield 15, 3) := by decide +kernel
theorem dX2_init_20 : decode cX2_init 20 = .ok (.aload_n 0, 1) := by decide +kernel
theorem dX2_init_21 : decode cX2_init 21 = .ok (.bipush 9, 2) := by decide +kernel
theorem dX2_init_23 : decode cX2_init 23 = .ok (.newarray .int, 2) := by decide +kernel
theorem dX2_init_25 : decode cX2_init 25 = .ok (.putfield 18, 3) := by decide +kernel
theorem dX2_init_28 : decode cX2_init 28 = .ok (.aload_n 0, 1) := by decide +kernel
theorem dX2_init_29 : decode cX2_init 29 = .ok (.iconst 5, 1) := by decide +kernel
theorem dX2_init_30 : decode cX2_init 30 = .ok (.newarray .int, 2) := by decide +kernel
theorem dX2_init_32 : decode cX2_init 32 = .ok (.putfield 21, 3) := by decide +kernel
theorem dX2_init_35 : decode cX2_init 35 = .ok (.aload_n 0, 1) := by decide +kernel
theorem dX2_init_36 : decode cX2_init 36 = .ok (.iconst 0, 1) := by decide +kernel
theorem dX2_init_37 : decode cX2_init 37 = .ok (.putfield 24, 3) := by decide +kernel
theorem dX2_init_40 : decode cX2_init 40 = .ok (.aload_n 0, 1) := by decide +kernel
theorem dX2_init_41 : decode cX2_init 41 = .ok (.iconst 0, 1) := by decide +kernel
theorem dX2_init_42 : decode cX2_init 42 = .ok (.putfield 28, 3) := by decide +kernel
theorem dX2_init_45 : decode cX2_init 45 = .ok (.aload_n 0, 1) := by decide +kernel
theorem dX2_init_46 : decode cX2_init 46 = .ok (.iconst 0, 1) := by decide +kernel
theorem dX2_init_47 : decode cX2_init 47 = .ok (.putfield 31, 3) := by decide +kernel
theorem dX2_init_50 : decode cX2_init 50 = .ok (.return_, 1) := by decide +kernel
theorem dX2_take_0 : decode cX2_take 0 = .ok (.aload_n 0, 1) := by decide +kernel
theorem dX2_take_1 : decode cX2_take 1 = .ok (.aload_n 1, 1) := by decide +kernel
theorem dX2_take_2 : decode cX2_take 2 = .ok (.getfield 35, 3) := by decide +kernel
theorem dX2_take_5 : decode cX2_take 5 = .ok (.putfield 24, 3) := by decide +kernel
theorem dX2_take_8 : decode cX2_take 8 = .ok (.aload_n 0, 1) := by decide +kernel
theorem dX2_take_9 : decode cX2_take 9 = .ok (.aload_n 1, 1) := by decide +kernel
theorem dX2_take_10 : decode cX2_take 10 = .ok (.getfield 38, 3) := by decide +kernel
theorem dX2_take_13 : decode cX2_take 13 = .ok (.putfield 28, 3) := by decide +kernel
theorem dX2_take_16 : decode cX2_take 16 = .ok (.aload_n 1, 1) := by decide +kernel
theorem dX2_take_17 : decode cX2_take 17 = .ok (.getfield 39, 3) := by decide +kernel
theorem dX2_take_20 : decode cX2_take 20 = .ok (.iconst 0, 1) := by decide +kernel
theorem dX2_take_21 : decode cX2_take 21 = .ok (.aload_n 0, 1) := by decide +kernel
theorem dX2_take_22 : decode cX2_take 22 = .ok (.getfield 9, 3) := by decide +kernel
theorem dX2_take_25 : decode cX2_take 25 = .ok (.iconst 0, 1) := by decide +kernel
theorem dX2_take_26 : decode cX2_take 26 = .ok (.aload_n 0, 1) := by decide +kernel
theorem dX2_take_27 : decode cX2_take 27 = .ok (.getfield 24, 3) := by decide +kernel
theorem dX2_take_30 : decode cX2_take 30 = .ok (.invokestatic 40, 3) := by decide +kernel
theorem dX2_take_33 : decode cX2_take 33 = .ok (.aload_n 1, 1) := by decide +kernel
theorem dX2_take_34 : decode cX2_take 34 = .ok (.getfield 46, 3) := by decide +kernel
theorem dX2_take_37 : decode cX2_take 37 = .ok (.iconst 0, 1) := by decide +kernel
theorem dX2_take_38 : decode cX2_take 38 = .ok (.aload_n 0, 1) := by decide +kernel
theorem dX2_take_39 : decode cX2_take 39 = .ok (.getfield 15, 3) := by decide +kernel
theorem dX2_take_42 : decode cX2_take 42 = .ok (.iconst 0, 1) := by decide +kernel
theorem dX2_take_43 : decode cX2_take 43 = .ok (.aload_n 0, 1) := by decide +kernel
theorem dX2_take_44 : decode cX2_take 44 = .ok (.getfield 24, 3) := by decide +kernel
theorem dX2_take_47 : decode cX2_take 47 = .ok (.invokestatic 40, 3) := by decide +kernel
theorem dX2_take_50 : decode cX2_take 50 = .ok (.aload_n 1, 1) := by decide +kernel
theorem dX2_take_51 : decode cX2_take 51 = .ok (.getfield 47, 3) := by decide +kernel
theorem dX2_take_54 : decode cX2_take 54 = .ok (.iconst 0, 1) := by decide +kernel
theorem dX2_take_55 : decode cX2_take 55 = .ok (.aload_n 0, 1) := by decide +kernel
theorem dX2_take_56 : decode cX2_take 56 = .ok (.getfield 18, 3) := by decide +kernel
theorem dX2_take_59 : decode cX2_take 59 = .ok (.iconst 0, 1) := by decide +kernel
theorem dX2_take_60 : decode cX2_take 60 = .ok (.aload_n 0, 1) := by decide +kernel
theorem dX2_take_61 : decode cX2_take 61 = .ok (.getfield 24, 3) := by decide +kernel
theorem dX2_take_64 : decode cX2_take 64 = .ok (.invokestatic 40, 3) := by decide +kernel
theorem dX2_take_67 : decode cX2_take 67 = .ok (.aload_n 2, 1) := by decide +kernel
theorem dX2_take_68 : decode cX2_take 68 = .ok (.iconst 0, 1) := by decide +kernel
theorem dX2_take_69 : decode cX2_take 69 = .ok (.aload_n 0, 1) := by decide +kernel
theorem dX2_take_70 : decode cX2_take 70 = .ok (.getfield 21, 3) := by decide +kernel
theorem dX2_take_73 : decode cX2_take 73 = .ok (.iconst 0, 1) := by decide +kernel
theorem dX2_take_74 : decode cX2_take 74 = .ok (.iconst 5, 1) := by decide +kernel
theorem dX2_take_75 : decode cX2_take 75 = .ok (.invokestatic 40, 3) := by decide +kernel
theorem dX2_take_78 : decode cX2_take 78 = .ok (.aload_n 0, 1) := by decide +kernel
theorem dX2_take_79 : decode cX2_take 79 = .ok (.iconst 1, 1) := by decide +kernel
theorem dX2_take_80 : decode cX2_take 80 = .ok (.putfield 31, 3) := by decide +kernel
theorem dX2_take_83 : decode cX2_take 83 = .ok (.return_, 1) := by decide +kernel
theorem dX2_layBack_0 : decode cX2_layBack 0 = .ok (.aload_n 1, 1) := by decide +kernel
theorem dX2_layBack_1 : decode cX2_layBack 1 = .ok (.aload_n 0, 1) := by decide +kernel
theorem dX2_layBack_2 : decode cX2_layBack 2 = .ok (.getfield 28, 3) := by decide +kernel
theorem dX2_layBack_5 : decode cX2_layBack 5 = .ok (.putfield 38, 3) := by decide +kernel
theorem dX2_layBack_8 : decode cX2_layBack 8 = .ok (.aload_n 0, 1) := by decide +kernel
theorem dX2_layBack_9 : decode cX2_layBack 9 = .ok (.getfield 9, 3) := by decide +kernel
theorem dX2_layBack_12 : decode cX2_layBack 12 = .ok (.iconst 0, 1) := by decide +kernel
theorem dX2_layBack_13 : decode cX2_layBack 13 = .ok (.aload_n 1, 1) := by decide +kernel
theorem dX2_layBack_14 : decode cX2_layBack 14 = .ok (.getfield 39, 3) := by decide +kernel
theorem dX2_layBack_17 : decode cX2_layBack 17 = .ok (.iconst 0, 1) := by decide +kernel
theorem dX2_layBack_18 : decode cX2_layBack 18 = .ok (.aload_n 0, 1) := by decide +kernel
theorem dX2_layBack_19 : decode cX2_layBack 19 = .ok (.getfield 24, 3) := by decide +kernel
theorem dX2_layBack_22 : decode cX2_layBack 22 = .ok (.invokestatic 40, 3) := by decide +kernel
theorem dX2_layBack_25 : decode cX2_layBack 25 = .ok (.aload_n 0, 1) := by decide +kernel
theorem dX2_layBack_26 : decode cX2_layBack 26 = .ok (.getfield 15, 3) := by decide +kernel
theorem dX2_layBack_29 : decode cX2_layBack 29 = .ok (.iconst 0, 1) := by decide +kernel
theorem dX2_layBack_30 : decode cX2_layBack 30 = .ok (.aload_n 1, 1) := by decide +kernel
theorem dX2_layBack_31 : decode cX2_layBack 31 = .ok (.getfield 46, 3) := by decide +kernel
theorem dX2_layBack_34 : decode cX2_layBack 34 = .ok (.iconst 0, 1) := by decide +kernel
theorem dX2_layBack_35 : decode cX2_layBack 35 = .ok (.aload_n 0, 1) := by decide +kernel
theorem dX2_layBack_36 : decode cX2_layBack 36 = .ok (.getfield 24, 3) := by decide +kernel
theorem dX2_layBack_39 : decode cX2_layBack 39 = .ok (.invokestatic 40, 3) := by decide +kernel
theorem dX2_layBack_42 : decode cX2_layBack 42 = .ok (.aload_n 0, 1) := by decide +kernel
theorem dX2_layBack_43 : decode cX2_layBack 43 = .ok (.getfield 18, 3) := by decide +kernel
theorem dX2_layBack_46 : decode cX2_layBack 46 = .ok (.iconst 0, 1) := by decide +kernel
theorem dX2_layBack_47 : decode cX2_layBack 47 = .ok (.aload_n 1, 1) := by decide +kernel
theorem dX2_layBack_48 : decode cX2_layBack 48 = .ok (.getfield 47, 3) := by decide +kernel
theorem dX2_layBack_51 : decode cX2_layBack 51 = .ok (.iconst 0, 1) := by decide +kernel
theorem dX2_layBack_52 : decode cX2_layBack 52 = .ok (.aload_n 0, 1) := by decide +kernel
theorem dX2_layBack_53 : decode cX2_layBack 53 = .ok (.getfield 24, 3) := by decide +kernel
theorem dX2_layBack_56 : decode cX2_layBack 56 = .ok (.invokestatic 40, 3) := by decide +kernel
theorem dX2_layBack_59 : decode cX2_layBack 59 = .ok (.aload_n 0, 1) := by decide +kernel
theorem dX2_layBack_60 : decode cX2_layBack 60 = .ok (.getfield 21, 3) := by decide +kernel
theorem dX2_layBack_63 : decode cX2_layBack 63 = .ok (.iconst 0, 1) := by decide +kernel
theorem dX2_layBack_64 : decode cX2_layBack 64 = .ok (.aload_n 2, 1) := by decide +kernel
theorem dX2_layBack_65 : decode cX2_layBack 65 = .ok (.iconst 0, 1) := by decide +kernel
theorem dX2_layBack_66 : decode cX2_layBack 66 = .ok (.iconst 5, 1) := by decide +kernel
theorem dX2_layBack_67 : decode cX2_layBack 67 = .ok (.invokestatic 40, 3) := by decide +kernel
theorem dX2_layBack_70 : decode cX2_layBack 70 = .ok (.return_, 1) := by decide +kernel
theorem dX3_init_0 : decode cX3_init 0 = .ok (.aload_n 0, 1) := by decide +kernel
theorem dX3_init_1 : decode cX3_init 1 = .ok (.invokespecial 3, 3) := by decide +kernel
theorem dX3_init_4 : decode cX3_init 4 = .ok (.aload_n 0, 1) := by decide +kernel
theorem dX3_init_5 : decode cX3_init 5 = .ok (.bipush 121, 2) := by decide +kernel
theorem dX3_init_7 : decode cX3_init 7 = .ok (.newarray .int, 2) := by decide +kernel
theorem dX3_init_9 : decode cX3_init 9 = .ok (.putfield 11, 3) := by decide +kernel
theorem dX3_init_12 : decode cX3_init 12 = .ok (.aload_n 0, 1) := by decide +kernel
theorem dX3_init_13 : decode cX3_init 13 = .ok (.iconst 0, 1) := by decide +kernel
theorem dX3_init_14 : decode cX3_init 14 = .ok (.putfield 17, 3) := by decide +kernel
theorem dX3_init_17 : decode cX3_init 17 = .ok (.aload_n 0, 1) := by decide +kernel
theorem dX3_init_18 : decode cX3_init 18 = .ok (.bipush 121, 2) := by decide +kernel
theorem dX3_init_20 : decode cX3_init 20 = .ok (.newarray .int, 2) := by decide +kernel
theorem dX3_init_22 : decode cX3_init 22 = .ok (.putfield 21, 3) := by decide +kernel
theorem dX3_init_25 : decode cX3_init 25 = .ok (.aload_n 0, 1) := by decide +kernel
theorem dX3_init_26 : decode cX3_init 26 = .ok (.iconst 0, 1) := by decide +kernel
theorem dX3_init_27 : decode cX3_init 27 = .ok (.putfield 24, 3) := by decide +kernel
theorem dX3_init_30 : decode cX3_init 30 = .ok (.return_, 1) := by decide +kernel
theorem dX3_become_0 : decode cX3_become 0 = .ok (.aload_n 1, 1) := by decide +kernel
theorem dX3_become_1 : decode cX3_become 1 = .ok (.getfield 27, 3) := by decide +kernel
theorem dX3_become_4 : decode cX3_become 4 = .ok (.iconst 0, 1) := by decide +kernel
theorem dX3_become_5 : decode cX3_become 5 = .ok (.aload_n 0, 1) := by decide +kernel
theorem dX3_become_6 : decode cX3_become 6 = .ok (.getfield 11, 3) := by decide +kernel
theorem dX3_become_9 : decode cX3_become 9 = .ok (.iconst 0, 1) := by decide +kernel
theorem dX3_become_10 : decode cX3_become 10 = .ok (.bipush 121, 2) := by decide +kernel
theorem dX3_become_12 : decode cX3_become 12 = .ok (.invokestatic 28, 3) := by decide +kernel
theorem dX3_become_15 : decode cX3_become 15 = .ok (.aload_n 0, 1) := by decide +kernel
theorem dX3_become_16 : decode cX3_become 16 = .ok (.aload_n 1, 1) := by decide +kernel
theorem dX3_become_17 : decode cX3_become 17 = .ok (.getfield 34, 3) := by decide +kernel
theorem dX3_become_20 : decode cX3_become 20 = .ok (.putfield 17, 3) := by decide +kernel
theorem dX3_become_23 : decode cX3_become 23 = .ok (.return_, 1) := by decide +kernel
theorem dX3_readOf_0 : decode cX3_readOf 0 = .ok (.aload_n 1, 1) := by decide +kernel
theorem dX3_readOf_1 : decode cX3_readOf 1 = .ok (.iload_n 2, 1) := by decide +kernel
theorem dX3_readOf_2 : decode cX3_readOf 2 = .ok (.invokevirtual 35, 3) := by decide +kernel
theorem dX3_readOf_5 : decode cX3_readOf 5 = .ok (.ifCond .ne 5, 3) := by decide +kernel
theorem dX3_readOf_8 : decode cX3_readOf 8 = .ok (.iconst 0, 1) := by decide +kernel
theorem dX3_readOf_9 : decode cX3_readOf 9 = .ok (.ireturn, 1) := by decide +kernel
theorem dX3_readOf_10 : decode cX3_readOf 10 = .ok (.aload_n 0, 1) := by decide +kernel
theorem dX3_readOf_11 : decode cX3_readOf 11 = .ok (.getfield 17, 3) := by decide +kernel
theorem dX3_readOf_14 : decode cX3_readOf 14 = .ok (.ifCond .ne 11, 3) := by decide +kernel
theorem dX3_readOf_17 : decode cX3_readOf 17 = .ok (.aload_n 1, 1) := by decide +kernel
theorem dX3_readOf_18 : decode cX3_readOf 18 = .ok (.iload_n 2, 1) := by decide +kernel
theorem dX3_readOf_19 : decode cX3_readOf 19 = .ok (.invokestatic 41, 3) := by decide +kernel
theorem dX3_readOf_22 : decode cX3_readOf 22 = .ok (.goto 4, 3) := by decide +kernel
theorem dX3_readOf_25 : decode cX3_readOf 25 = .ok (.iconst 0, 1) := by decide +kernel
theorem dX3_readOf_26 : decode cX3_readOf 26 = .ok (.istore_n 3, 1) := by decide +kernel
theorem dX3_readOf_27 : decode cX3_readOf 27 = .ok (.iconst 0, 1) := by decide +kernel
theorem dX3_readOf_28 : decode cX3_readOf 28 = .ok (.istore 4, 2) := by decide +kernel
theorem dX3_readOf_30 : decode cX3_readOf 30 = .ok (.aload_n 0, 1) := by decide +kernel
theorem dX3_readOf_31 : decode cX3_readOf 31 = .ok (.iconst 0, 1) := by decide +kernel
theorem dX3_readOf_32 : decode cX3_readOf 32 = .ok (.putfield 24, 3) := by decide +kernel
theorem dX3_readOf_35 : decode cX3_readOf 35 = .ok (.iconst 0, 1) := by decide +kernel
theorem dX3_readOf_36 : decode cX3_readOf 36 = .ok (.istore 5, 2) := by decide +kernel
theorem dX3_readOf_38 : decode cX3_readOf 38 = .ok (.iload 5, 2) := by decide +kernel
theorem dX3_readOf_40 : decode cX3_readOf 40 = .ok (.aload_n 0, 1) := by decide +kernel
theorem dX3_readOf_41 : decode cX3_readOf 41 = .ok (.getfield 17, 3) := by decide +kernel
theorem dX3_readOf_44 : decode cX3_readOf 44 = .ok (.if_icmp .ge 117, 3) := by decide +kernel
theorem dX3_readOf_47 : decode cX3_readOf 47 = .ok (.iload 4, 2) := by decide +kernel
theorem dX3_readOf_49 : decode cX3_readOf 49 = .ok (.ifCond .ne 112, 3) := by decide +kernel
theorem dX3_readOf_52 : decode cX3_readOf 52 = .ok (.aload_n 0, 1) := by decide +kernel
theorem dX3_readOf_53 : decode cX3_readOf 53 = .ok (.getfield 11, 3) := by decide +kernel
theorem dX3_readOf_56 : decode cX3_readOf 56 = .ok (.iload 5, 2) := by decide +kernel
theorem dX3_readOf_58 : decode cX3_readOf 58 = .ok (.iaload, 1) := by decide +kernel
theorem dX3_readOf_59 : decode cX3_readOf 59 = .ok (.istore 6, 2) := by decide +kernel
theorem dX3_readOf_61 : decode cX3_readOf 61 = .ok (.iload 6, 2) := by decide +kernel
theorem dX3_readOf_63 : decode cX3_readOf 63 = .ok (.ifCond .lt 12, 3) := by decide +kernel
theorem dX3_readOf_66 : decode cX3_readOf 66 = .ok (.aload_n 0, 1) := by decide +kernel
theorem dX3_readOf_67 : decode cX3_readOf 67 = .ok (.iload 6, 2) := by decide +kernel
theorem dX3_readOf_69 : decode cX3_readOf 69 = .ok (.invokevirtual 45, 3) := by decide +kernel
theorem dX3_readOf_72 : decode cX3_readOf 72 = .ok (.goto 83, 3) := by decide +kernel
theorem dX3_readOf_75 : decode cX3_readOf 75 = .ok (.iload 6, 2) := by decide +kernel
theorem dX3_readOf_77 : decode cX3_readOf 77 = .ok (.ineg, 1) := by decide +kernel
theorem dX3_readOf_78 : decode cX3_readOf 78 = .ok (.invokestatic 49, 3) := by decide +kernel
theorem dX3_readOf_81 : decode cX3_readOf 81 = .ok (.ifCond .eq 18, 3) := by decide +kernel
theorem dX3_readOf_84 : decode cX3_readOf 84 = .ok (.aload_n 0, 1) := by decide +kernel
theorem dX3_readOf_85 : decode cX3_readOf 85 = .ok (.iload 6, 2) := by decide +kernel
theorem dX3_readOf_87 : decode cX3_readOf 87 = .ok (.ineg, 1) := by decide +kernel
theorem dX3_readOf_88 : decode cX3_readOf 88 = .ok (.aload_n 1, 1) := by decide +kernel
theorem dX3_readOf_89 : decode cX3_readOf 89 = .ok (.iload_n 2, 1) := by decide +kernel
theorem dX3_readOf_90 : decode cX3_readOf 90 = .ok (.invokestatic 52, 3) := by decide +kernel
theorem dX3_readOf_93 : decode cX3_readOf 93 = .ok (.invokevirtual 45, 3) := by decide +kernel
theorem dX3_readOf_96 : decode cX3_readOf 96 = .ok (.goto 59, 3) := by decide +kernel
theorem dX3_readOf_99 : decode cX3_readOf 99 = .ok (.iload 6, 2) := by decide +kernel
theorem dX3_readOf_101 : decode cX3_readOf 101 = .ok (.bipush (-59), 2) := by decide +kernel
theorem dX3_readOf_103 : decode cX3_readOf 103 = .ok (.if_icmp .eq 13, 3) := by decide +kernel
theorem dX3_readOf_106 : decode cX3_readOf 106 = .ok (.aload_n 0, 1) := by decide +kernel
theorem dX3_readOf_107 : decode cX3_readOf 107 = .ok (.iload 6, 2) := by decide +kernel
theorem dX3_readOf_109 : decode cX3_readOf 109 = .ok (.ineg, 1) := by decide +kernel
theorem dX3_readOf_110 : decode cX3_readOf 110 = .ok (.invokevirtual 56, 3) := by decide +kernel
theorem dX3_readOf_113 : decode cX3_readOf 113 = .ok (.goto 42, 3) := by decide +kernel
theorem dX3_readOf_116 : decode cX3_readOf 116 = .ok (.aload_n 0, 1) := by decide +kernel
theorem dX3_readOf_117 : decode cX3_readOf 117 = .ok (.invokevirtual 59, 3) := by decide +kernel
theorem dX3_readOf_120 : decode cX3_readOf 120 = .ok (.istore 7, 2) := by decide +kernel
theorem dX3_readOf_122 : decode cX3_readOf 122 = .ok (.aload_n 0, 1) := by decide +kernel
theorem dX3_readOf_123 : decode cX3_readOf 123 = .ok (.getfield 24, 3) := by decide +kernel
theorem dX3_readOf_126 : decode cX3_readOf 126 = .ok (.ifCond .eq 10, 3) := by decide +kernel
theorem dX3_readOf_129 : decode cX3_readOf 129 = .ok (.aload_n 0, 1) := by decide +kernel
theorem dX3_readOf_130 : decode cX3_readOf 130 = .ok (.invokevirtual 59, 3) := by decide +kernel
theorem dX3_readOf_133 : decode cX3_readOf 133 = .ok (.ifCond .eq 7, 3) := by decide +kernel
theorem dX3_readOf_136 : decode cX3_readOf 136 = .ok (.iconst 1, 1) := by decide +kernel
theorem dX3_readOf_137 : decode cX3_readOf 137 = .ok (.goto 4, 3) := by decide +kernel
theorem dX3_readOf_140 : decode cX3_readOf 140 = .ok (.iconst 0, 1) := by decide +kernel
theorem dX3_readOf_141 : decode cX3_readOf 141 = .ok (.istore 4, 2) := by decide +kernel
theorem dX3_readOf_143 : decode cX3_readOf 143 = .ok (.iload 4, 2) := by decide +kernel
theorem dX3_readOf_145 : decode cX3_readOf 145 = .ok (.ifCond .eq 8, 3) := by decide +kernel
theorem dX3_readOf_148 : decode cX3_readOf 148 = .ok (.iload 7, 2) := by decide +kernel
theorem dX3_readOf_150 : decode cX3_readOf 150 = .ok (.goto 4, 3) := by decide +kernel
theorem dX3_readOf_153 : decode cX3_readOf 153 = .ok (.iconst 0, 1) := by decide +kernel
theorem dX3_readOf_154 : decode cX3_readOf 154 = .ok (.istore_n 3, 1) := by decide +kernel
theorem dX3_readOf_155 : decode cX3_readOf 155 = .ok (.iinc 5 1, 3) := by decide +kernel
theorem dX3_readOf_158 : decode cX3_readOf 158 = .ok (.goto (-120), 3) := by decide +kernel
theorem dX3_readOf_161 : decode cX3_readOf 161 = .ok (.iconst 0, 1) := by decide +kernel
theorem dX3_readOf_162 : decode cX3_readOf 162 = .ok (.bipush 99, 2) := by decide +kernel
theorem dX3_readOf_164 : decode cX3_readOf 164 = .ok (.iload_n 3, 1) := by decide +kernel
theorem dX3_readOf_165 : decode cX3_readOf 165 = .ok (.invokestatic 63, 3) := by decide +kernel
theorem dX3_readOf_168 : decode cX3_readOf 168 = .ok (.invokestatic 69, 3) := by decide +kernel
theorem dX3_readOf_171 : decode cX3_readOf 171 = .ok (.ireturn, 1) := by decide +kernel
theorem dX3_sorriest_0 : decode cX3_sorriest 0 = .ok (.bipush (-2), 2) := by decide +kernel
theorem dX3_sorriest_2 : decode cX3_sorriest 2 = .ok (.istore_n 3, 1) := by decide +kernel
theorem dX3_sorriest_3 : decode cX3_sorriest 3 = .ok (.iconst (-1), 1) := by decide +kernel
theorem dX3_sorriest_4 : decode cX3_sorriest 4 = .ok (.istore 4, 2) := by decide +kernel
theorem dX3_sorriest_6 : decode cX3_sorriest 6 = .ok (.iconst 0, 1) := by decide +kernel
theorem dX3_sorriest_7 : decode cX3_sorriest 7 = .ok (.istore 5, 2) := by decide +kernel
theorem dX3_sorriest_9 : decode cX3_sorriest 9 = .ok (.iload 5, 2) := by decide +kernel
theorem dX3_sorriest_11 : decode cX3_sorriest 11 = .ok (.aload_n 1, 1) := by decide +kernel
theorem dX3_sorriest_12 : decode cX3_sorriest 12 = .ok (.getfield 72, 3) := by decide +kernel
theorem dX3_sorriest_15 : decode cX3_sorriest 15 = .ok (.if_icmp .ge 48, 3) := by decide +kernel
theorem dX3_sorriest_18 : decode cX3_sorriest 18 = .ok (.aload_n 1, 1) := by decide +kernel
theorem dX3_sorriest_19 : decode cX3_sorriest 19 = .ok (.getfield 75, 3) := by decide +kernel
theorem dX3_sorriest_22 : decode cX3_sorriest 22 = .ok (.iload 5, 2) := by decide +kernel
theorem dX3_sorriest_24 : decode cX3_sorriest 24 = .ok (.iaload, 1) := by decide +kernel
theorem dX3_sorriest_25 : decode cX3_sorriest 25 = .ok (.ifCond .ne 32, 3) := by decide +kernel
theorem dX3_sorriest_28 : decode cX3_sorriest 28 = .ok (.iload 5, 2) := by decide +kernel
theorem dX3_sorriest_30 : decode cX3_sorriest 30 = .ok (.iload_n 2, 1) := by decide +kernel
theorem dX3_sorriest_31 : decode cX3_sorriest 31 = .ok (.if_icmp .eq 26, 3) := by decide +kernel
theorem dX3_sorriest_34 : decode cX3_sorriest 34 = .ok (.aload_n 0, 1) := by decide +kernel
theorem dX3_sorriest_35 : decode cX3_sorriest 35 = .ok (.aload_n 1, 1) := by decide +kernel
theorem dX3_sorriest_36 : decode cX3_sorriest 36 = .ok (.iload 5, 2) := by decide +kernel
theorem dX3_sorriest_38 : decode cX3_sorriest 38 = .ok (.invokevirtual 78, 3) := by decide +kernel
theorem dX3_sorriest_41 : decode cX3_sorriest 41 = .ok (.istore 6, 2) := by decide +kernel
theorem dX3_sorriest_43 : decode cX3_sorriest 43 = .ok (.iload 6, 2) := by decide +kernel
theorem dX3_sorriest_45 : decode cX3_sorriest 45 = .ok (.iload 4, 2) := by decide +kernel
theorem dX3_sorriest_47 : decode cX3_sorriest 47 = .ok (.if_icmp .le 10, 3) := by decide +kernel
theorem dX3_sorriest_50 : decode cX3_sorriest 50 = .ok (.iload 6, 2) := by decide +kernel
theorem dX3_sorriest_52 : decode cX3_sorriest 52 = .ok (.istore 4, 2) := by decide +kernel
theorem dX3_sorriest_54 : decode cX3_sorriest 54 = .ok (.iload 5, 2) := by decide +kernel
theorem dX3_sorriest_56 : decode cX3_sorriest 56 = .ok (.istore_n 3, 1) := by decide +kernel
theorem dX3_sorriest_57 : decode cX3_sorriest 57 = .ok (.iinc 5 1, 3) := by decide +kernel
theorem dX3_sorriest_60 : decode cX3_sorriest 60 = .ok (.goto (-51), 3) := by decide +kernel
theorem dX3_sorriest_63 : decode cX3_sorriest 63 = .ok (.iload_n 3, 1) := by decide +kernel
theorem dX3_sorriest_64 : decode cX3_sorriest 64 = .ok (.ireturn, 1) := by decide +kernel
theorem dX3_placeInOrder_0 : decode cX3_placeInOrder 0 = .ok (.aload_n 1, 1) := by decide +kernel
theorem dX3_placeInOrder_1 : decode cX3_placeInOrder 1 = .ok (.iload_n 2, 1) := by decide +kernel
theorem dX3_placeInOrder_2 : decode cX3_placeInOrder 2 = .ok (.invokevirtual 81, 3) := by decide +kernel
theorem dX3_placeInOrder_5 : decode cX3_placeInOrder 5 = .ok (.ifCond .ne 6, 3) := by decide +kernel
theorem dX3_placeInOrder_8 : decode cX3_placeInOrder 8 = .ok (.bipush (-2), 2) := by decide +kernel
theorem dX3_placeInOrder_10 : decode cX3_placeInOrder 10 = .ok (.ireturn, 1) := by decide +kernel
theorem dX3_placeInOrder_11 : decode cX3_placeInOrder 11 = .ok (.aload_n 0, 1) := by decide +kernel
theorem dX3_placeInOrder_12 : decode cX3_placeInOrder 12 = .ok (.aload_n 1, 1) := by decide +kernel
theorem dX3_placeInOrder_13 : decode cX3_placeInOrder 13 = .ok (.iload_n 2, 1) := by decide +kernel
theorem dX3_placeInOrder_14 : decode cX3_placeInOrder 14 = .ok (.invokevirtual 78, 3) := by decide +kernel
theorem dX3_placeInOrder_17 : decode cX3_placeInOrder 17 = .ok (.istore_n 3, 1) := by decide +kernel
theorem dX3_placeInOrder_18 : decode cX3_placeInOrder 18 = .ok (.iconst 0, 1) := by decide +kernel
theorem dX3_placeInOrder_19 : decode cX3_placeInOrder 19 = .ok (.istore 4, 2) := by decide +kernel
theorem dX3_placeInOrder_21 : decode cX3_placeInOrder 21 = .ok (.iconst 0, 1) := by decide +kernel
theorem dX3_placeInOrder_22 : decode cX3_placeInOrder 22 = .ok (.istore 5, 2) := by decide +kernel
theorem dX3_placeInOrder_24 : decode cX3_placeInOrder 24 = .ok (.iload 5, 2) := by decide +kernel
theorem dX3_placeInOrder_26 : decode cX3_placeInOrder 26 = .ok (.aload_n 1, 1) := by decide +kernel
theorem dX3_placeInOrder_27 : decode cX3_placeInOrder 27 = .ok (.getfield 72, 3) := by decide +kernel
theorem dX3_placeInOrder_30 : decode cX3_placeInOrder 30 = .ok (.if_icmp .ge 55, 3) := by decide +kernel
theorem dX3_placeInOrder_33 : decode cX3_placeInOrder 33 = .ok (.aload_n 1, 1) := by decide +kernel
theorem dX3_placeInOrder_34 : decode cX3_placeInOrder 34 = .ok (.getfield 75, 3) := by decide +kernel
theorem dX3_placeInOrder_37 : decode cX3_placeInOrder 37 = .ok (.iload 5, 2) := by decide +kernel
theorem dX3_placeInOrder_39 : decode cX3_placeInOrder 39 = .ok (.iaload, 1) := by decide +kernel
theorem dX3_placeInOrder_40 : decode cX3_placeInOrder 40 = .ok (.ifCond .ne 39, 3) := by decide +kernel
theorem dX3_placeInOrder_43 : decode cX3_placeInOrder 43 = .ok (.iload 5, 2) := by decide +kernel
theorem dX3_placeInOrder_45 : decode cX3_placeInOrder 45 = .ok (.iload_n 2, 1) := by decide +kernel
theorem dX3_placeInOrder_46 : decode cX3_placeInOrder 46 = .ok (.if_icmp .eq 33, 3) := by decide +kernel
theorem dX3_placeInOrder_49 : decode cX3_placeInOrder 49 = .ok (.aload_n 0, 1) := by decide +kernel
theorem dX3_placeInOrder_50 : decode cX3_placeInOrder 50 = .ok (.aload_n 1, 1) := by decide +kernel
theorem dX3_placeInOrder_51 : decode cX3_placeInOrder 51 = .ok (.iload 5, 2) := by decide +kernel
theorem dX3_placeInOrder_53 : decode cX3_placeInOrder 53 = .ok (.invokevirtual 78, 3) := by decide +kernel
theorem dX3_placeInOrder_56 : decode cX3_placeInOrder 56 = .ok (.istore 6, 2) := by decide +kernel
theorem dX3_placeInOrder_58 : decode cX3_placeInOrder 58 = .ok (.iload 6, 2) := by decide +kernel
theorem dX3_placeInOrder_60 : decode cX3_placeInOrder 60 = .ok (.iload_n 3, 1) := by decide +kernel
theorem dX3_placeInOrder_61 : decode cX3_placeInOrder 61 = .ok (.if_icmp .gt 15, 3) := by decide +kernel
theorem dX3_placeInOrder_64 : decode cX3_placeInOrder 64 = .ok (.iload 6, 2) := by decide +kernel
theorem dX3_placeInOrder_66 : decode cX3_placeInOrder 66 = .ok (.iload_n 3, 1) := by decide +kernel
theorem dX3_placeInOrder_67 : decode cX3_placeInOrder 67 = .ok (.if_icmp .ne 12, 3) := by decide +kernel
theorem dX3_placeInOrder_70 : decode cX3_placeInOrder 70 = .ok (.iload 5, 2) := by decide +kernel
theorem dX3_placeInOrder_72 : decode cX3_placeInOrder 72 = .ok (.iload_n 2, 1) := by decide +kernel
theorem dX3_placeInOrder_73 : decode cX3_placeInOrder 73 = .ok (.if_icmp .ge 6, 3) := by decide +kernel
theorem dX3_placeInOrder_76 : decode cX3_placeInOrder 76 = .ok (.iinc 4 1, 3) := by decide +kernel
theorem dX3_placeInOrder_79 : decode cX3_placeInOrder 79 = .ok (.iinc 5 1, 3) := by decide +kernel
theorem dX3_placeInOrder_82 : decode cX3_placeInOrder 82 = .ok (.goto (-58), 3) := by decide +kernel
theorem dX3_placeInOrder_85 : decode cX3_placeInOrder 85 = .ok (.iload 4, 2) := by decide +kernel
theorem dX3_placeInOrder_87 : decode cX3_placeInOrder 87 = .ok (.ireturn, 1) := by decide +kernel
theorem dX3_worthWithoutText_0 : decode cX3_worthWithoutText 0 = .ok (.aload_n 0, 1) := by decide +kernel
theorem dX3_worthWithoutText_1 : decode cX3_worthWithoutText 1 = .ok (.getfield 84, 3) := by decide +kernel
theorem dX3_worthWithoutText_4 : decode cX3_worthWithoutText 4 = .ok (.iload_n 1, 1) := by decide +kernel
theorem dX3_worthWithoutText_5 : decode cX3_worthWithoutText 5 = .ok (.iaload, 1) := by decide +kernel
theorem dX3_worthWithoutText_6 : decode cX3_worthWithoutText 6 = .ok (.iconst 2, 1) := by decide +kernel
theorem dX3_worthWithoutText_7 : decode cX3_worthWithoutText 7 = .ok (.aload_n 0, 1) := by decide +kernel
theorem dX3_worthWithoutText_8 : decode cX3_worthWithoutText 8 = .ok (.getfield 87, 3) := by decide +kernel
theorem dX3_worthWithoutText_11 : decode cX3_worthWithoutText 11 = .ok (.iload_n 1, 1) := by decide +kernel
theorem dX3_worthWithoutText_12 : decode cX3_worthWithoutText 12 = .ok (.iaload, 1) := by decide +kernel
theorem dX3_worthWithoutText_13 : decode cX3_worthWithoutText 13 = .ok (.imul, 1) := by decide +kernel
theorem dX3_worthWithoutText_14 : decode cX3_worthWithoutText 14 = .ok (.iadd, 1) := by decide +kernel
theorem dX3_worthWithoutText_15 : decode cX3_worthWithoutText 15 = .ok (.aload_n 0, 1) := by decide +kernel
theorem dX3_worthWithoutText_16 : decode cX3_worthWithoutText 16 = .ok (.getfield 90, 3) := by decide +kernel
theorem dX3_worthWithoutText_19 : decode cX3_worthWithoutText 19 = .ok (.iload_n 1, 1) := by decide +kernel
theorem dX3_worthWithoutText_20 : decode cX3_worthWithoutText 20 = .ok (.iaload, 1) := by decide +kernel
theorem dX3_worthWithoutText_21 : decode cX3_worthWithoutText 21 = .ok (.ifCond .ne 7, 3) := by decide +kernel
theorem dX3_worthWithoutText_24 : decode cX3_worthWithoutText 24 = .ok (.iconst 5, 1) := by decide +kernel
theorem dX3_worthWithoutText_25 : decode cX3_worthWithoutText 25 = .ok (.goto 4, 3) := by decide +kernel
theorem dX3_worthWithoutText_28 : decode cX3_worthWithoutText 28 = .ok (.iconst 0, 1) := by decide +kernel
theorem dX3_worthWithoutText_29 : decode cX3_worthWithoutText 29 = .ok (.isub, 1) := by decide +kernel
theorem dX3_worthWithoutText_30 : decode cX3_worthWithoutText 30 = .ok (.ireturn, 1) := by decide +kernel
theorem dX3_worthOfName_0 : decode cX3_worthOfName 0 = .ok (.iload_n 0, 1) := by decide +kernel
theorem dX3_worthOfName_1 : decode cX3_worthOfName 1 = .ok (.tableswitch 90 104 114 #[73, 90, 90, 90, 66, 80, 85, 90, 90, 90, 59], 59) := by decide +kernel
theorem dX3_worthOfName_60 : decode cX3_worthOfName 60 = .ok (.aload_n 1, 1) := by decide +kernel
theorem dX3_worthOfName_61 : decode cX3_worthOfName 61 = .ok (.getfield 84, 3) := by decide +kernel
theorem dX3_worthOfName_64 : decode cX3_worthOfName 64 = .ok (.iload_n 2, 1) := by decide +kernel
theorem dX3_worthOfName_65 : decode cX3_worthOfName 65 = .ok (.iaload, 1) := by decide +kernel
theorem dX3_worthOfName_66 : decode cX3_worthOfName 66 = .ok (.ireturn, 1) := by decide +kernel
theorem dX3_worthOfName_67 : decode cX3_worthOfName 67 = .ok (.aload_n 1, 1) := by decide +kernel
theorem dX3_worthOfName_68 : decode cX3_worthOfName 68 = .ok (.getfield 87, 3) := by decide +kernel
theorem dX3_worthOfName_71 : decode cX3_worthOfName 71 = .ok (.iload_n 2, 1) := by decide +kernel
theorem dX3_worthOfName_72 : decode cX3_worthOfName 72 = .ok (.iaload, 1) := by decide +kernel
theorem dX3_worthOfName_73 : decode cX3_worthOfName 73 = .ok (.ireturn, 1) := by decide +kernel
theorem dX3_worthOfName_74 : decode cX3_worthOfName 74 = .ok (.aload_n 1, 1) := by decide +kernel
theorem dX3_worthOfName_75 : decode cX3_worthOfName 75 = .ok (.getfield 90, 3) := by decide +kernel
theorem dX3_worthOfName_78 : decode cX3_worthOfName 78 = .ok (.iload_n 2, 1) := by decide +kernel
theorem dX3_worthOfName_79 : decode cX3_worthOfName 79 = .ok (.iaload, 1) := by decide +kernel
theorem dX3_worthOfName_80 : decode cX3_worthOfName 80 = .ok (.ireturn, 1) := by decide +kernel
theorem dX3_worthOfName_81 : decode cX3_worthOfName 81 = .ok (.aload_n 1, 1) := by decide +kernel
theorem dX3_worthOfName_82 : decode cX3_worthOfName 82 = .ok (.getfield 93, 3) := by decide +kernel
theorem dX3_worthOfName_85 : decode cX3_worthOfName 85 = .ok (.ireturn, 1) := by decide +kernel
theorem dX3_worthOfName_86 : decode cX3_worthOfName 86 = .ok (.aload_n 1, 1) := by decide +kernel
theorem dX3_worthOfName_87 : decode cX3_worthOfName 87 = .ok (.invokevirtual 96, 3) := by decide +kernel
theorem dX3_worthOfName_90 : decode cX3_worthOfName 90 = .ok (.ireturn, 1) := by decide +kernel
theorem dX3_worthOfName_91 : decode cX3_worthOfName 91 = .ok (.iload_n 2, 1) := by decide +kernel
theorem dX3_worthOfName_92 : decode cX3_worthOfName 92 = .ok (.ireturn, 1) := by decide +kernel
theorem dX3_workOut_0 : decode cX3_workOut 0 = .ok (.aload_n 0, 1) := by decide +kernel
theorem dX3_workOut_1 : decode cX3_workOut 1 = .ok (.invokevirtual 59, 3) := by decide +kernel
theorem dX3_workOut_4 : decode cX3_workOut 4 = .ok (.istore_n 2, 1) := by decide +kernel
theorem dX3_workOut_5 : decode cX3_workOut 5 = .ok (.iload_n 1, 1) := by decide +kernel
theorem dX3_workOut_6 : decode cX3_workOut 6 = .ok (.bipush 33, 2) := by decide +kernel
theorem dX3_workOut_8 : decode cX3_workOut 8 = .ok (.if_icmp .ne 19, 3) := by decide +kernel
theorem dX3_workOut_11 : decode cX3_workOut 11 = .ok (.aload_n 0, 1) := by decide +kernel
theorem dX3_workOut_12 : decode cX3_workOut 12 = .ok (.iload_n 2, 1) := by decide +kernel
theorem dX3_workOut_13 : decode cX3_workOut 13 = .ok (.ifCond .ne 7, 3) := by decide +kernel
theorem dX3_workOut_16 : decode cX3_workOut 16 = .ok (.iconst 1, 1) := by decide +kernel
theorem dX3_workOut_17 : decode cX3_workOut 17 = .ok (.goto 4, 3) := by decide +kernel
theorem dX3_workOut_20 : decode cX3_workOut 20 = .ok (.iconst 0, 1) := by decide +kernel
theorem dX3_workOut_21 : decode cX3_workOut 21 = .ok (.invokevirtual 45, 3) := by decide +kernel
theorem dX3_workOut_24 : decode cX3_workOut 24 = .ok (.goto 31, 3) := by decide +kernel
theorem dX3_workOut_27 : decode cX3_workOut 27 = .ok (.iload_n 1, 1) := by decide +kernel
theorem dX3_workOut_28 : decode cX3_workOut 28 = .ok (.bipush 126, 2) := by decide +kernel
theorem dX3_workOut_30 : decode cX3_workOut 30 = .ok (.if_icmp .ne 12, 3) := by decide +kernel
theorem dX3_workOut_33 : decode cX3_workOut 33 = .ok (.aload_n 0, 1) := by decide +kernel
theorem dX3_workOut_34 : decode cX3_workOut 34 = .ok (.iload_n 2, 1) := by decide +kernel
theorem dX3_workOut_35 : decode cX3_workOut 35 = .ok (.ineg, 1) := by decide +kernel
theorem dX3_workOut_36 : decode cX3_workOut 36 = .ok (.invokevirtual 45, 3) := by decide +kernel
theorem dX3_workOut_39 : decode cX3_workOut 39 = .ok (.goto 16, 3) := by decide +kernel
theorem dX3_workOut_42 : decode cX3_workOut 42 = .ok (.aload_n 0, 1) := by decide +kernel
theorem dX3_workOut_43 : decode cX3_workOut 43 = .ok (.iload_n 1, 1) := by decide +kernel
theorem dX3_workOut_44 : decode cX3_workOut 44 = .ok (.aload_n 0, 1) := by decide +kernel
theorem dX3_workOut_45 : decode cX3_workOut 45 = .ok (.invokevirtual 59, 3) := by decide +kernel
theorem dX3_workOut_48 : decode cX3_workOut 48 = .ok (.iload_n 2, 1) := by decide +kernel
theorem dX3_workOut_49 : decode cX3_workOut 49 = .ok (.invokestatic 99, 3) := by decide +kernel
theorem dX3_workOut_52 : decode cX3_workOut 52 = .ok (.invokevirtual 45, 3) := by decide +kernel
theorem dX3_workOut_55 : decode cX3_workOut 55 = .ok (.return_, 1) := by decide +kernel
theorem dX3_worthOfTwo_0 : decode cX3_worthOfTwo 0 = .ok (.iload_n 0, 1) := by decide +kernel
theorem dX3_worthOfTwo_1 : decode cX3_worthOfTwo 1 = .ok (.lookupswitch 168 #[(38, 97), (42, 152), (43, 144), (45, 148), (47, 156), (60, 111), (61, 122), (62, 133), (124, 83)], 83) := by decide +kernel
theorem dX3_worthOfTwo_84 : decode cX3_worthOfTwo 84 = .ok (.iload_n 1, 1) := by decide +kernel
theorem dX3_worthOfTwo_85 : decode cX3_worthOfTwo 85 = .ok (.ifCond .ne 7, 3) := by decide +kernel
theorem dX3_worthOfTwo_88 : decode cX3_worthOfTwo 88 = .ok (.iload_n 2, 1) := by decide +kernel
theorem dX3_worthOfTwo_89 : decode cX3_worthOfTwo 89 = .ok (.ifCond .eq 7, 3) := by decide +kernel
theorem dX3_worthOfTwo_92 : decode cX3_worthOfTwo 92 = .ok (.iconst 1, 1) := by decide +kernel
theorem dX3_worthOfTwo_93 : decode cX3_worthOfTwo 93 = .ok (.goto 4, 3) := by decide +kernel
theorem dX3_worthOfTwo_96 : decode cX3_worthOfTwo 96 = .ok (.iconst 0, 1) := by decide +kernel
theorem dX3_worthOfTwo_97 : decode cX3_worthOfTwo 97 = .ok (.ireturn, 1) := by decide +kernel
theorem dX3_worthOfTwo_98 : decode cX3_worthOfTwo 98 = .ok (.iload_n 1, 1) := by decide +kernel
theorem dX3_worthOfTwo_99 : decode cX3_worthOfTwo 99 = .ok (.ifCond .eq 11, 3) := by decide +kernel
theorem dX3_worthOfTwo_102 : decode cX3_worthOfTwo 102 = .ok (.iload_n 2, 1) := by decide +kernel
theorem dX3_worthOfTwo_103 : decode cX3_worthOfTwo 103 = .ok (.ifCond .eq 7, 3) := by decide +kernel
theorem dX3_worthOfTwo_106 : decode cX3_worthOfTwo 106 = .ok (.iconst 1, 1) := by decide +kernel
theorem dX3_worthOfTwo_107 : decode cX3_worthOfTwo 107 = .ok (.goto 4, 3) := by decide +kernel
theorem dX3_worthOfTwo_110 : decode cX3_worthOfTwo 110 = .ok (.iconst 0, 1) := by decide +kernel
theorem dX3_worthOfTwo_111 : decode cX3_worthOfTwo 111 = .ok (.ireturn, 1) := by decide +kernel
theorem dX3_worthOfTwo_112 : decode cX3_worthOfTwo 112 = .ok (.iload_n 1, 1) := by decide +kernel
theorem dX3_worthOfTwo_113 : decode cX3_worthOfTwo 113 = .ok (.iload_n 2, 1) := by decide +kernel
theorem dX3_worthOfTwo_114 : decode cX3_worthOfTwo 114 = .ok (.if_icmp .ge 7, 3) := by decide +kernel
theorem dX3_worthOfTwo_117 : decode cX3_worthOfTwo 117 = .ok (.iconst 1, 1) := by decide +kernel
theorem dX3_worthOfTwo_118 : decode cX3_worthOfTwo 118 = .ok (.goto 4, 3) := by decide +kernel
theorem dX3_worthOfTwo_121 : decode cX3_worthOfTwo 121 = .ok (.iconst 0, 1) := by decide +kernel
theorem dX3_worthOfTwo_122 : decode cX3_worthOfTwo 122 = .ok (.ireturn, 1) := by decide +kernel
theorem dX3_worthOfTwo_123 : decode cX3_worthOfTwo 123 = .ok (.iload_n 1, 1) := by decide +kernel
theorem dX3_worthOfTwo_124 : decode cX3_worthOfTwo 124 = .ok (.iload_n 2, 1) := by decide +kernel
theorem dX3_worthOfTwo_125 : decode cX3_worthOfTwo 125 = .ok (.if_icmp .ne 7, 3) := by decide +kernel
theorem dX3_worthOfTwo_128 : decode cX3_worthOfTwo 128 = .ok (.iconst 1, 1) := by decide +kernel
theorem dX3_worthOfTwo_129 : decode cX3_worthOfTwo 129 = .ok (.goto 4, 3) := by decide +kernel
theorem dX3_worthOfTwo_132 : decode cX3_worthOfTwo 132 = .ok (.iconst 0, 1) := by decide +kernel
theorem dX3_worthOfTwo_133 : decode cX3_worthOfTwo 133 = .ok (.ireturn, 1) := by decide +kernel
theorem dX3_worthOfTwo_134 : decode cX3_worthOfTwo 134 = .ok (.iload_n 1, 1) := by decide +kernel
theorem dX3_worthOfTwo_135 : decode cX3_worthOfTwo 135 = .ok (.iload_n 2, 1) := by decide +kernel
theorem dX3_worthOfTwo_136 : decode cX3_worthOfTwo 136 = .ok (.if_icmp .le 7, 3) := by decide +kernel
theorem dX3_worthOfTwo_139 : decode cX3_worthOfTwo 139 = .ok (.iconst 1, 1) := by decide +kernel
theorem dX3_worthOfTwo_140 : decode cX3_worthOfTwo 140 = .ok (.goto 4, 3) := by decide +kernel
theorem dX3_worthOfTwo_143 : decode cX3_worthOfTwo 143 = .ok (.iconst 0, 1) := by decide +kernel
theorem dX3_worthOfTwo_144 : decode cX3_worthOfTwo 144 = .ok (.ireturn, 1) := by decide +kernel
theorem dX3_worthOfTwo_145 : decode cX3_worthOfTwo 145 = .ok (.iload_n 1, 1) := by decide +kernel
theorem dX3_worthOfTwo_146 : decode cX3_worthOfTwo 146 = .ok (.iload_n 2, 1) := by decide +kernel
theorem dX3_worthOfTwo_147 : decode cX3_worthOfTwo 147 = .ok (.iadd, 1) := by decide +kernel
theorem dX3_worthOfTwo_148 : decode cX3_worthOfTwo 148 = .ok (.ireturn, 1) := by decide +kernel
theorem dX3_worthOfTwo_149 : decode cX3_worthOfTwo 149 = .ok (.iload_n 1, 1) := by decide +kernel
theorem dX3_worthOfTwo_150 : decode cX3_worthOfTwo 150 = .ok (.iload_n 2, 1) := by decide +kernel
theorem dX3_worthOfTwo_151 : decode cX3_worthOfTwo 151 = .ok (.isub, 1) := by decide +kernel
theorem dX3_worthOfTwo_152 : decode cX3_worthOfTwo 152 = .ok (.ireturn, 1) := by decide +kernel
theorem dX3_worthOfTwo_153 : decode cX3_worthOfTwo 153 = .ok (.iload_n 1, 1) := by decide +kernel
theorem dX3_worthOfTwo_154 : decode cX3_worthOfTwo 154 = .ok (.iload_n 2, 1) := by decide +kernel
theorem dX3_worthOfTwo_155 : decode cX3_worthOfTwo 155 = .ok (.imul, 1) := by decide +kernel
theorem dX3_worthOfTwo_156 : decode cX3_worthOfTwo 156 = .ok (.ireturn, 1) := by decide +kernel
theorem dX3_worthOfTwo_157 : decode cX3_worthOfTwo 157 = .ok (.iload_n 2, 1) := by decide +kernel
theorem dX3_worthOfTwo_158 : decode cX3_worthOfTwo 158 = .ok (.ifCond .ne 7, 3) := by decide +kernel
theorem dX3_worthOfTwo_161 : decode cX3_worthOfTwo 161 = .ok (.iconst 0, 1) := by decide +kernel
theorem dX3_worthOfTwo_162 : decode cX3_worthOfTwo 162 = .ok (.goto 6, 3) := by decide +kernel
theorem dX3_worthOfTwo_165 : decode cX3_worthOfTwo 165 = .ok (.iload_n 1, 1) := by decide +kernel
theorem dX3_worthOfTwo_166 : decode cX3_worthOfTwo 166 = .ok (.iload_n 2, 1) := by decide +kernel
theorem dX3_worthOfTwo_167 : decode cX3_worthOfTwo 167 = .ok (.idiv, 1) := by decide +kernel
theorem dX3_worthOfTwo_168 : decode cX3_worthOfTwo 168 = .ok (.ireturn, 1) := by decide +kernel
theorem dX3_worthOfTwo_169 : decode cX3_worthOfTwo 169 = .ok (.iload_n 2, 1) := by decide +kernel
theorem dX3_worthOfTwo_170 : decode cX3_worthOfTwo 170 = .ok (.ifCond .ne 7, 3) := by decide +kernel
theorem dX3_worthOfTwo_173 : decode cX3_worthOfTwo 173 = .ok (.iconst 0, 1) := by decide +kernel
theorem dX3_worthOfTwo_174 : decode cX3_worthOfTwo 174 = .ok (.goto 6, 3) := by decide +kernel
theorem dX3_worthOfTwo_177 : decode cX3_worthOfTwo 177 = .ok (.iload_n 1, 1) := by decide +kernel
theorem dX3_worthOfTwo_178 : decode cX3_worthOfTwo 178 = .ok (.iload_n 2, 1) := by decide +kernel
theorem dX3_worthOfTwo_179 : decode cX3_worthOfTwo 179 = .ok (.irem, 1) := by decide +kernel
theorem dX3_worthOfTwo_180 : decode cX3_worthOfTwo 180 = .ok (.ireturn, 1) := by decide +kernel
theorem dX3_push_0 : decode cX3_push 0 = .ok (.aload_n 0, 1) := by decide +kernel
theorem dX3_push_1 : decode cX3_push 1 = .ok (.getfield 24, 3) := by decide +kernel
theorem dX3_push_4 : decode cX3_push 4 = .ok (.aload_n 0, 1) := by decide +kernel
theorem dX3_push_5 : decode cX3_push 5 = .ok (.getfield 21, 3) := by decide +kernel
theorem dX3_push_8 : decode cX3_push 8 = .ok (.arraylength, 1) := by decide +kernel
theorem dX3_push_9 : decode cX3_push 9 = .ok (.if_icmp .ge 23, 3) := by decide +kernel
theorem dX3_push_12 : decode cX3_push 12 = .ok (.aload_n 0, 1) := by decide +kernel
theorem dX3_push_13 : decode cX3_push 13 = .ok (.getfield 21, 3) := by decide +kernel
theorem dX3_push_16 : decode cX3_push 16 = .ok (.aload_n 0, 1) := by decide +kernel
theorem dX3_push_17 : decode cX3_push 17 = .ok (.getfield 24, 3) := by decide +kernel
theorem dX3_push_20 : decode cX3_push 20 = .ok (.iload_n 1, 1) := by decide +kernel
theorem dX3_push_21 : decode cX3_push 21 = .ok (.iastore, 1) := by decide +kernel
theorem dX3_push_22 : decode cX3_push 22 = .ok (.aload_n 0, 1) := by decide +kernel
theorem dX3_push_23 : decode cX3_push 23 = .ok (.dup, 1) := by decide +kernel
theorem dX3_push_24 : decode cX3_push 24 = .ok (.getfield 24, 3) := by decide +kernel
theorem dX3_push_27 : decode cX3_push 27 = .ok (.iconst 1, 1) := by decide +kernel
theorem dX3_push_28 : decode cX3_push 28 = .ok (.iadd, 1) := by decide +kernel
theorem dX3_push_29 : decode cX3_push 29 = .ok (.putfield 24, 3) := by decide +kernel
theorem dX3_push_32 : decode cX3_push 32 = .ok (.return_, 1) := by decide +kernel
theorem dX3_pop_0 : decode cX3_pop 0 = .ok (.aload_n 0, 1) := by decide +kernel
theorem dX3_pop_1 : decode cX3_pop 1 = .ok (.getfield 24, 3) := by decide +kernel
theorem dX3_pop_4 : decode cX3_pop 4 = .ok (.ifCond .gt 5, 3) := by decide +kernel
theorem dX3_pop_7 : decode cX3_pop 7 = .ok (.iconst 0, 1) := by decide +kernel
theorem dX3_pop_8 : decode cX3_pop 8 = .ok (.ireturn, 1) := by decide +kernel
theorem dX3_pop_9 : decode cX3_pop 9 = .ok (.aload_n 0, 1) := by decide +kernel
theorem dX3_pop_10 : decode cX3_pop 10 = .ok (.dup, 1) := by decide +kernel
theorem dX3_pop_11 : decode cX3_pop 11 = .ok (.getfield 24, 3) := by decide +kernel
theorem dX3_pop_14 : decode cX3_pop 14 = .ok (.iconst 1, 1) := by decide +kernel
theorem dX3_pop_15 : decode cX3_pop 15 = .ok (.isub, 1) := by decide +kernel
theorem dX3_pop_16 : decode cX3_pop 16 = .ok (.putfield 24, 3) := by decide +kernel
theorem dX3_pop_19 : decode cX3_pop 19 = .ok (.aload_n 0, 1) := by decide +kernel
theorem dX3_pop_20 : decode cX3_pop 20 = .ok (.getfield 21, 3) := by decide +kernel
theorem dX3_pop_23 : decode cX3_pop 23 = .ok (.aload_n 0, 1) := by decide +kernel
theorem dX3_pop_24 : decode cX3_pop 24 = .ok (.getfield 24, 3) := by decide +kernel
theorem dX3_pop_27 : decode cX3_pop 27 = .ok (.iaload, 1) := by decide +kernel
theorem dX3_pop_28 : decode cX3_pop 28 = .ok (.ireturn, 1) := by decide +kernel
theorem dX4_init_0 : decode cX4_init 0 = .ok (.aload_n 0, 1) := by decide +kernel
theorem dX4_init_1 : decode cX4_init 1 = .ok (.invokespecial 3, 3) := by decide +kernel
theorem dX4_init_4 : decode cX4_init 4 = .ok (.aload_n 0, 1) := by decide +kernel
theorem dX4_init_5 : decode cX4_init 5 = .ok (.bipush 121, 2) := by decide +kernel
theorem dX4_init_7 : decode cX4_init 7 = .ok (.newarray .int, 2) := by decide +kernel
theorem dX4_init_9 : decode cX4_init 9 = .ok (.putfield 11, 3) := by decide +kernel
theorem dX4_init_12 : decode cX4_init 12 = .ok (.aload_n 0, 1) := by decide +kernel
theorem dX4_init_13 : decode cX4_init 13 = .ok (.iconst 0, 1) := by decide +kernel
theorem dX4_init_14 : decode cX4_init 14 = .ok (.putfield 15, 3) := by decide +kernel
theorem dX4_init_17 : decode cX4_init 17 = .ok (.aload_n 0, 1) := by decide +kernel
theorem dX4_init_18 : decode cX4_init 18 = .ok (.bipush 120, 2) := by decide +kernel
theorem dX4_init_20 : decode cX4_init 20 = .ok (.newarray .int, 2) := by decide +kernel
theorem dX4_init_22 : decode cX4_init 22 = .ok (.putfield 19, 3) := by decide +kernel
theorem dX4_init_25 : decode cX4_init 25 = .ok (.aload_n 0, 1) := by decide +kernel
theorem dX4_init_26 : decode cX4_init 26 = .ok (.iconst 0, 1) := by decide +kernel
theorem dX4_init_27 : decode cX4_init 27 = .ok (.putfield 22, 3) := by decide +kernel
theorem dX4_init_30 : decode cX4_init 30 = .ok (.aload_n 0, 1) := by decide +kernel
theorem dX4_init_31 : decode cX4_init 31 = .ok (.iconst 0, 1) := by decide +kernel
theorem dX4_init_32 : decode cX4_init 32 = .ok (.putfield 25, 3) := by decide +kernel
theorem dX4_init_35 : decode cX4_init 35 = .ok (.aload_n 0, 1) := by decide +kernel
theorem dX4_init_36 : decode cX4_init 36 = .ok (.iconst 0, 1) := by decide +kernel
theorem dX4_init_37 : decode cX4_init 37 = .ok (.putfield 28, 3) := by decide +kernel
theorem dX4_init_40 : decode cX4_init 40 = .ok (.aload_n 0, 1) := by decide +kernel
theorem dX4_init_41 : decode cX4_init 41 = .ok (.iconst 0, 1) := by decide +kernel
theorem dX4_init_42 : decode cX4_init 42 = .ok (.putfield 31, 3) := by decide +kernel
theorem dX4_init_45 : decode cX4_init 45 = .ok (.aload_n 0, 1) := by decide +kernel
theorem dX4_init_46 : decode cX4_init 46 = .ok (.iconst 1, 1) := by decide +kernel
theorem dX4_init_47 : decode cX4_init 47 = .ok (.putfield 34, 3) := by decide +kernel
theorem dX4_init_50 : decode cX4_init 50 = .ok (.aload_n 0, 1) := by decide +kernel
theorem dX4_init_51 : decode cX4_init 51 = .ok (.iconst 0, 1) := by decide +kernel
theorem dX4_init_52 : decode cX4_init 52 = .ok (.putfield 38, 3) := by decide +kernel
theorem dX4_init_55 : decode cX4_init 55 = .ok (.return_, 1) := by decide +kernel
theorem dX4_faultOf_0 : decode cX4_faultOf 0 = .ok (.aload_n 0, 1) := by decide +kernel
theorem dX4_faultOf_1 : decode cX4_faultOf 1 = .ok (.invokevirtual 41, 3) := by decide +kernel
theorem dX4_faultOf_4 : decode cX4_faultOf 4 = .ok (.iconst 0, 1) := by decide +kernel
theorem dX4_faultOf_5 : decode cX4_faultOf 5 = .ok (.istore_n 3, 1) := by decide +kernel
theorem dX4_faultOf_6 : decode cX4_faultOf 6 = .ok (.iload_n 3, 1) := by decide +kernel
theorem dX4_faultOf_7 : decode cX4_faultOf 7 = .ok (.iload_n 2, 1) := by decide +kernel
theorem dX4_faultOf_8 : decode cX4_faultOf 8 = .ok (.if_icmp .ge 47, 3) := by decide +kernel
theorem dX4_faultOf_11 : decode cX4_faultOf 11 = .ok (.iload_n 3, 1) := by decide +kernel
theorem dX4_faultOf_12 : decode cX4_faultOf 12 = .ok (.aload_n 1, 1) := by decide +kernel
theorem dX4_faultOf_13 : decode cX4_faultOf 13 = .ok (.arraylength, 1) := by decide +kernel
theorem dX4_faultOf_14 : decode cX4_faultOf 14 = .ok (.if_icmp .ge 41, 3) := by decide +kernel
theorem dX4_faultOf_17 : decode cX4_faultOf 17 = .ok (.aload_n 0, 1) := by decide +kernel
theorem dX4_faultOf_18 : decode cX4_faultOf 18 = .ok (.getfield 34, 3) := by decide +kernel
theorem dX4_faultOf_21 : decode cX4_faultOf 21 = .ok (.ifCond .eq 16, 3) := by decide +kernel
theorem dX4_faultOf_24 : decode cX4_faultOf 24 = .ok (.aload_n 0, 1) := by decide +kernel
theorem dX4_faultOf_25 : decode cX4_faultOf 25 = .ok (.aload_n 1, 1) := by decide +kernel
theorem dX4_faultOf_26 : decode cX4_faultOf 26 = .ok (.iload_n 3, 1) := by decide +kernel
theorem dX4_faultOf_27 : decode cX4_faultOf 27 = .ok (.iaload, 1) := by decide +kernel
theorem dX4_faultOf_28 : decode cX4_faultOf 28 = .ok (.invokevirtual 44, 3) := by decide +kernel
theorem dX4_faultOf_31 : decode cX4_faultOf 31 = .ok (.ifCond .eq 16, 3) := by decide +kernel
theorem dX4_faultOf_34 : decode cX4_faultOf 34 = .ok (.goto 15, 3) := by decide +kernel
theorem dX4_faultOf_37 : decode cX4_faultOf 37 = .ok (.aload_n 0, 1) := by decide +kernel
theorem dX4_faultOf_38 : decode cX4_faultOf 38 = .ok (.aload_n 1, 1) := by decide +kernel
theorem dX4_faultOf_39 : decode cX4_faultOf 39 = .ok (.iload_n 3, 1) := by decide +kernel
theorem dX4_faultOf_40 : decode cX4_faultOf 40 = .ok (.iaload, 1) := by decide +kernel
theorem dX4_faultOf_41 : decode cX4_faultOf 41 = .ok (.invokevirtual 48, 3) := by decide +kernel
theorem dX4_faultOf_44 : decode cX4_faultOf 44 = .ok (.ifCond .ne 5, 3) := by decide +kernel
theorem dX4_faultOf_47 : decode cX4_faultOf 47 = .ok (.iload_n 3, 1) := by decide +kernel
theorem dX4_faultOf_48 : decode cX4_faultOf 48 = .ok (.ireturn, 1) := by decide +kernel
theorem dX4_faultOf_49 : decode cX4_faultOf 49 = .ok (.iinc 3 1, 3) := by decide +kernel
theorem dX4_faultOf_52 : decode cX4_faultOf 52 = .ok (.goto (-46), 3) := by decide +kernel
theorem dX4_faultOf_55 : decode cX4_faultOf 55 = .ok (.aload_n 0, 1) := by decide +kernel
theorem dX4_faultOf_56 : decode cX4_faultOf 56 = .ok (.getfield 34, 3) := by decide +kernel
theorem dX4_faultOf_59 : decode cX4_faultOf 59 = .ok (.ifCond .ne 10, 3) := by decide +kernel
theorem dX4_faultOf_62 : decode cX4_faultOf 62 = .ok (.aload_n 0, 1) := by decide +kernel
theorem dX4_faultOf_63 : decode cX4_faultOf 63 = .ok (.invokevirtual 51, 3) := by decide +kernel
theorem dX4_faultOf_66 : decode cX4_faultOf 66 = .ok (.ifCond .ne 5, 3) := by decide +kernel
theorem dX4_faultOf_69 : decode cX4_faultOf 69 = .ok (.iload_n 2, 1) := by decide +kernel
theorem dX4_faultOf_70 : decode cX4_faultOf 70 = .ok (.ireturn, 1) := by decide +kernel
theorem dX4_faultOf_71 : decode cX4_faultOf 71 = .ok (.aload_n 0, 1) := by decide +kernel
theorem dX4_faultOf_72 : decode cX4_faultOf 72 = .ok (.bipush (-59), 2) := by decide +kernel
theorem dX4_faultOf_74 : decode cX4_faultOf 74 = .ok (.invokevirtual 55, 3) := by decide +kernel
theorem dX4_faultOf_77 : decode cX4_faultOf 77 = .ok (.iconst (-1), 1) := by decide +kernel
theorem dX4_faultOf_78 : decode cX4_faultOf 78 = .ok (.ireturn, 1) := by decide +kernel
theorem dX4_begin_0 : decode cX4_begin 0 = .ok (.aload_n 0, 1) := by decide +kernel
theorem dX4_begin_1 : decode cX4_begin 1 = .ok (.iconst 0, 1) := by decide +kernel
theorem dX4_begin_2 : decode cX4_begin 2 = .ok (.putfield 15, 3) := by decide +kernel
theorem dX4_begin_5 : decode cX4_begin 5 = .ok (.aload_n 0, 1) := by decide +kernel
theorem dX4_begin_6 : decode cX4_begin 6 = .ok (.iconst 0, 1) := by decide +kernel
theorem dX4_begin_7 : decode cX4_begin 7 = .ok (.putfield 22, 3) := by decide +kernel
theorem dX4_begin_10 : decode cX4_begin 10 = .ok (.aload_n 0, 1) := by decide +kernel
theorem dX4_begin_11 : decode cX4_begin 11 = .ok (.iconst 0, 1) := by decide +kernel
theorem dX4_begin_12 : decode cX4_begin 12 = .ok (.putfield 25, 3) := by decide +kernel
theorem dX4_begin_15 : decode cX4_begin 15 = .ok (.aload_n 0, 1) := by decide +kernel
theorem dX4_begin_16 : decode cX4_begin 16 = .ok (.iconst 0, 1) := by decide +kernel
theorem dX4_begin_17 : decode cX4_begin 17 = .ok (.putfield 28, 3) := by decide +kernel
theorem dX4_begin_20 : decode cX4_begin 20 = .ok (.aload_n 0, 1) := by decide +kernel
theorem dX4_begin_21 : decode cX4_begin 21 = .ok (.iconst 1, 1) := by decide +kernel
theorem dX4_begin_22 : decode cX4_begin 22 = .ok (.putfield 34, 3) := by decide +kernel
theorem dX4_begin_25 : decode cX4_begin 25 = .ok (.aload_n 0, 1) := by decide +kernel
theorem dX4_begin_26 : decode cX4_begin 26 = .ok (.iconst 0, 1) := by decide +kernel
theorem dX4_begin_27 : decode cX4_begin 27 = .ok (.putfield 38, 3) := by decide +kernel
theorem dX4_begin_30 : decode cX4_begin 30 = .ok (.return_, 1) := by decide +kernel
theorem dX4_takesOperand_0 : decode cX4_takesOperand 0 = .ok (.iload_n 1, 1) := by decide +kernel
theorem dX4_takesOperand_1 : decode cX4_takesOperand 1 = .ok (.invokestatic 59, 3) := by decide +kernel
theorem dX4_takesOperand_4 : decode cX4_takesOperand 4 = .ok (.ifCond .eq 26, 3) := by decide +kernel
theorem dX4_takesOperand_7 : decode cX4_takesOperand 7 = .ok (.aload_n 0, 1) := by decide +kernel
theorem dX4_takesOperand_8 : decode cX4_takesOperand 8 = .ok (.aload_n 0, 1) := by decide +kernel
theorem dX4_takesOperand_9 : decode cX4_takesOperand 9 = .ok (.getfield 15, 3) := by decide +kernel
theorem dX4_takesOperand_12 : decode cX4_takesOperand 12 = .ok (.putfield 31, 3) := by decide +kernel
theorem dX4_takesOperand_15 : decode cX4_takesOperand 15 = .ok (.aload_n 0, 1) := by decide +kernel
theorem dX4_takesOperand_16 : decode cX4_takesOperand 16 = .ok (.iload_n 1, 1) := by decide +kernel
theorem dX4_takesOperand_17 : decode cX4_takesOperand 17 = .ok (.bipush 48, 2) := by decide +kernel
theorem dX4_takesOperand_19 : decode cX4_takesOperand 19 = .ok (.isub, 1) := by decide +kernel
theorem dX4_takesOperand_20 : decode cX4_takesOperand 20 = .ok (.invokevirtual 55, 3) := by decide +kernel
theorem dX4_takesOperand_23 : decode cX4_takesOperand 23 = .ok (.aload_n 0, 1) := by decide +kernel
theorem dX4_takesOperand_24 : decode cX4_takesOperand 24 = .ok (.iconst 3, 1) := by decide +kernel
theorem dX4_takesOperand_25 : decode cX4_takesOperand 25 = .ok (.invokevirtual 62, 3) := by decide +kernel
theorem dX4_takesOperand_28 : decode cX4_takesOperand 28 = .ok (.iconst 1, 1) := by decide +kernel
theorem dX4_takesOperand_29 : decode cX4_takesOperand 29 = .ok (.ireturn, 1) := by decide +kernel
theorem dX4_takesOperand_30 : decode cX4_takesOperand 30 = .ok (.iload_n 1, 1) := by decide +kernel
theorem dX4_takesOperand_31 : decode cX4_takesOperand 31 = .ok (.invokestatic 65, 3) := by decide +kernel
theorem dX4_takesOperand_34 : decode cX4_takesOperand 34 = .ok (.ifCond .eq 16, 3) := by decide +kernel
theorem dX4_takesOperand_37 : decode cX4_takesOperand 37 = .ok (.aload_n 0, 1) := by decide +kernel
theorem dX4_takesOperand_38 : decode cX4_takesOperand 38 = .ok (.iload_n 1, 1) := by decide +kernel
theorem dX4_takesOperand_39 : decode cX4_takesOperand 39 = .ok (.ineg, 1) := by decide +kernel
theorem dX4_takesOperand_40 : decode cX4_takesOperand 40 = .ok (.invokevirtual 55, 3) := by decide +kernel
theorem dX4_takesOperand_43 : decode cX4_takesOperand 43 = .ok (.aload_n 0, 1) := by decide +kernel
theorem dX4_takesOperand_44 : decode cX4_takesOperand 44 = .ok (.iconst 0, 1) := by decide +kernel
theorem dX4_takesOperand_45 : decode cX4_takesOperand 45 = .ok (.invokevirtual 62, 3) := by decide +kernel
theorem dX4_takesOperand_48 : decode cX4_takesOperand 48 = .ok (.iconst 1, 1) := by decide +kernel
theorem dX4_takesOperand_49 : decode cX4_takesOperand 49 = .ok (.ireturn, 1) := by decide +kernel
theorem dX4_takesOperand_50 : decode cX4_takesOperand 50 = .ok (.iload_n 1, 1) := by decide +kernel
theorem dX4_takesOperand_51 : decode cX4_takesOperand 51 = .ok (.bipush 40, 2) := by decide +kernel
theorem dX4_takesOperand_53 : decode cX4_takesOperand 53 = .ok (.if_icmp .eq 15, 3) := by decide +kernel
theorem dX4_takesOperand_56 : decode cX4_takesOperand 56 = .ok (.iload_n 1, 1) := by decide +kernel
theorem dX4_takesOperand_57 : decode cX4_takesOperand 57 = .ok (.bipush 33, 2) := by decide +kernel
theorem dX4_takesOperand_59 : decode cX4_takesOperand 59 = .ok (.if_icmp .eq 9, 3) := by decide +kernel
theorem dX4_takesOperand_62 : decode cX4_takesOperand 62 = .ok (.iload_n 1, 1) := by decide +kernel
theorem dX4_takesOperand_63 : decode cX4_takesOperand 63 = .ok (.bipush 45, 2) := by decide +kernel
theorem dX4_takesOperand_65 : decode cX4_takesOperand 65 = .ok (.if_icmp .ne 12, 3) := by decide +kernel
theorem dX4_takesOperand_68 : decode cX4_takesOperand 68 = .ok (.aload_n 0, 1) := by decide +kernel
theorem dX4_takesOperand_69 : decode cX4_takesOperand 69 = .ok (.getfield 25, 3) := by decide +kernel
theorem dX4_takesOperand_72 : decode cX4_takesOperand 72 = .ok (.bipush 6, 2) := by decide +kernel
theorem dX4_takesOperand_74 : decode cX4_takesOperand 74 = .ok (.if_icmp .lt 5, 3) := by decide +kernel
theorem dX4_takesOperand_77 : decode cX4_takesOperand 77 = .ok (.iconst 0, 1) := by decide +kernel
theorem dX4_takesOperand_78 : decode cX4_takesOperand 78 = .ok (.ireturn, 1) := by decide +kernel
theorem dX4_takesOperand_79 : decode cX4_takesOperand 79 = .ok (.aload_n 0, 1) := by decide +kernel
theorem dX4_takesOperand_80 : decode cX4_takesOperand 80 = .ok (.dup, 1) := by decide +kernel
theorem dX4_takesOperand_81 : decode cX4_takesOperand 81 = .ok (.getfield 25, 3) := by decide +kernel
theorem dX4_takesOperand_84 : decode cX4_takesOperand 84 = .ok (.iconst 1, 1) := by decide +kernel
theorem dX4_takesOperand_85 : decode cX4_takesOperand 85 = .ok (.iadd, 1) := by decide +kernel
theorem dX4_takesOperand_86 : decode cX4_takesOperand 86 = .ok (.putfield 25, 3) := by decide +kernel
theorem dX4_takesOperand_89 : decode cX4_takesOperand 89 = .ok (.aload_n 0, 1) := by decide +kernel
theorem dX4_takesOperand_90 : decode cX4_takesOperand 90 = .ok (.iload_n 1, 1) := by decide +kernel
theorem dX4_takesOperand_91 : decode cX4_takesOperand 91 = .ok (.bipush 45, 2) := by decide +kernel
theorem dX4_takesOperand_93 : decode cX4_takesOperand 93 = .ok (.if_icmp .ne 8, 3) := by decide +kernel
theorem dX4_takesOperand_96 : decode cX4_takesOperand 96 = .ok (.bipush 126, 2) := by decide +kernel
theorem dX4_takesOperand_98 : decode cX4_takesOperand 98 = .ok (.goto 4, 3) := by decide +kernel
theorem dX4_takesOperand_101 : decode cX4_takesOperand 101 = .ok (.iload_n 1, 1) := by decide +kernel
theorem dX4_takesOperand_102 : decode cX4_takesOperand 102 = .ok (.invokevirtual 68, 3) := by decide +kernel
theorem dX4_takesOperand_105 : decode cX4_takesOperand 105 = .ok (.iconst 1, 1) := by decide +kernel
theorem dX4_takesOperand_106 : decode cX4_takesOperand 106 = .ok (.ireturn, 1) := by decide +kernel
theorem dX4_takesSign_0 : decode cX4_takesSign 0 = .ok (.iload_n 1, 1) := by decide +kernel
theorem dX4_takesSign_1 : decode cX4_takesSign 1 = .ok (.invokestatic 59, 3) := by decide +kernel
theorem dX4_takesSign_4 : decode cX4_takesSign 4 = .ok (.ifCond .eq 9, 3) := by decide +kernel
theorem dX4_takesSign_7 : decode cX4_takesSign 7 = .ok (.aload_n 0, 1) := by decide +kernel
theorem dX4_takesSign_8 : decode cX4_takesSign 8 = .ok (.iload_n 1, 1) := by decide +kernel
theorem dX4_takesSign_9 : decode cX4_takesSign 9 = .ok (.invokevirtual 71, 3) := by decide +kernel
theorem dX4_takesSign_12 : decode cX4_takesSign 12 = .ok (.ireturn, 1) := by decide +kernel
theorem dX4_takesSign_13 : decode cX4_takesSign 13 = .ok (.iload_n 1, 1) := by decide +kernel
theorem dX4_takesSign_14 : decode cX4_takesSign 14 = .ok (.bipush 41, 2) := by decide +kernel
theorem dX4_takesSign_16 : decode cX4_takesSign 16 = .ok (.if_icmp .ne 8, 3) := by decide +kernel
theorem dX4_takesSign_19 : decode cX4_takesSign 19 = .ok (.aload_n 0, 1) := by decide +kernel
theorem dX4_takesSign_20 : decode cX4_takesSign 20 = .ok (.invokevirtual 74, 3) := by decide +kernel
theorem dX4_takesSign_23 : decode cX4_takesSign 23 = .ok (.ireturn, 1) := by decide +kernel
theorem dX4_takesSign_24 : decode cX4_takesSign 24 = .ok (.iload_n 1, 1) := by decide +kernel
theorem dX4_takesSign_25 : decode cX4_takesSign 25 = .ok (.bipush 63, 2) := by decide +kernel
theorem dX4_takesSign_27 : decode cX4_takesSign 27 = .ok (.if_icmp .eq 9, 3) := by decide +kernel
theorem dX4_takesSign_30 : decode cX4_takesSign 30 = .ok (.iload_n 1, 1) := by decide +kernel
theorem dX4_takesSign_31 : decode cX4_takesSign 31 = .ok (.bipush 59, 2) := by decide +kernel
theorem dX4_takesSign_33 : decode cX4_takesSign 33 = .ok (.if_icmp .ne 9, 3) := by decide +kernel
theorem dX4_takesSign_36 : decode cX4_takesSign 36 = .ok (.aload_n 0, 1) := by decide +kernel
theorem dX4_takesSign_37 : decode cX4_takesSign 37 = .ok (.iload_n 1, 1) := by decide +kernel
theorem dX4_takesSign_38 : decode cX4_takesSign 38 = .ok (.invokevirtual 77, 3) := by decide +kernel
theorem dX4_takesSign_41 : decode cX4_takesSign 41 = .ok (.ireturn, 1) := by decide +kernel
theorem dX4_takesSign_42 : decode cX4_takesSign 42 = .ok (.iload_n 1, 1) := by decide +kernel
theorem dX4_takesSign_43 : decode cX4_takesSign 43 = .ok (.invokestatic 80, 3) := by decide +kernel
theorem dX4_takesSign_46 : decode cX4_takesSign 46 = .ok (.istore_n 2, 1) := by decide +kernel
theorem dX4_takesSign_47 : decode cX4_takesSign 47 = .ok (.iload_n 2, 1) := by decide +kernel
theorem dX4_takesSign_48 : decode cX4_takesSign 48 = .ok (.iconst 1, 1) := by decide +kernel
theorem dX4_takesSign_49 : decode cX4_takesSign 49 = .ok (.if_icmp .lt 8, 3) := by decide +kernel
theorem dX4_takesSign_52 : decode cX4_takesSign 52 = .ok (.iload_n 2, 1) := by decide +kernel
theorem dX4_takesSign_53 : decode cX4_takesSign 53 = .ok (.iconst 5, 1) := by decide +kernel
theorem dX4_takesSign_54 : decode cX4_takesSign 54 = .ok (.if_icmp .le 5, 3) := by decide +kernel
theorem dX4_takesSign_57 : decode cX4_takesSign 57 = .ok (.iconst 0, 1) := by decide +kernel
theorem dX4_takesSign_58 : decode cX4_takesSign 58 = .ok (.ireturn, 1) := by decide +kernel
theorem dX4_takesSign_59 : decode cX4_takesSign 59 = .ok (.aload_n 0, 1) := by decide +kernel
theorem dX4_takesSign_60 : decode cX4_takesSign 60 = .ok (.iload_n 2, 1) := by decide +kernel
theorem dX4_takesSign_61 : decode cX4_takesSign 61 = .ok (.iconst 3, 1) := by decide +kernel
theorem dX4_takesSign_62 : decode cX4_takesSign 62 = .ok (.if_icmp .ne 9, 3) := by decide +kernel
theorem dX4_takesSign_65 : decode cX4_takesSign 65 = .ok (.iload_n 2, 1) := by decide +kernel
theorem dX4_takesSign_66 : decode cX4_takesSign 66 = .ok (.iconst 1, 1) := by decide +kernel
theorem dX4_takesSign_67 : decode cX4_takesSign 67 = .ok (.iadd, 1) := by decide +kernel
theorem dX4_takesSign_68 : decode cX4_takesSign 68 = .ok (.goto 4, 3) := by decide +kernel
theorem dX4_takesSign_71 : decode cX4_takesSign 71 = .ok (.iload_n 2, 1) := by decide +kernel
theorem dX4_takesSign_72 : decode cX4_takesSign 72 = .ok (.invokevirtual 84, 3) := by decide +kernel
theorem dX4_takesSign_75 : decode cX4_takesSign 75 = .ok (.pop, 1) := by decide +kernel
theorem dX4_takesSign_76 : decode cX4_takesSign 76 = .ok (.iload_n 2, 1) := by decide +kernel
theorem dX4_takesSign_77 : decode cX4_takesSign 77 = .ok (.iconst 3, 1) := by decide +kernel
theorem dX4_takesSign_78 : decode cX4_takesSign 78 = .ok (.if_icmp .ne 30, 3) := by decide +kernel
theorem dX4_takesSign_81 : decode cX4_takesSign 81 = .ok (.aload_n 0, 1) := by decide +kernel
theorem dX4_takesSign_82 : decode cX4_takesSign 82 = .ok (.getfield 22, 3) := by decide +kernel
theorem dX4_takesSign_85 : decode cX4_takesSign 85 = .ok (.ifCond .le 23, 3) := by decide +kernel
theorem dX4_takesSign_88 : decode cX4_takesSign 88 = .ok (.aload_n 0, 1) := by decide +kernel
theorem dX4_takesSign_89 : decode cX4_takesSign 89 = .ok (.getfield 19, 3) := by decide +kernel
theorem dX4_takesSign_92 : decode cX4_takesSign 92 = .ok (.aload_n 0, 1) := by decide +kernel
theorem dX4_takesSign_93 : decode cX4_takesSign 93 = .ok (.getfield 22, 3) := by decide +kernel
theorem dX4_takesSign_96 : decode cX4_takesSign 96 = .ok (.iconst 1, 1) := by decide +kernel
theorem dX4_takesSign_97 : decode cX4_takesSign 97 = .ok (.isub, 1) := by decide +kernel
theorem dX4_takesSign_98 : decode cX4_takesSign 98 = .ok (.iaload, 1) := by decide +kernel
theorem dX4_takesSign_99 : decode cX4_takesSign 99 = .ok (.invokestatic 80, 3) := by decide +kernel
theorem dX4_takesSign_102 : decode cX4_takesSign 102 = .ok (.iconst 3, 1) := by decide +kernel
theorem dX4_takesSign_103 : decode cX4_takesSign 103 = .ok (.if_icmp .ne 5, 3) := by decide +kernel
theorem dX4_takesSign_106 : decode cX4_takesSign 106 = .ok (.iconst 0, 1) := by decide +kernel
theorem dX4_takesSign_107 : decode cX4_takesSign 107 = .ok (.ireturn, 1) := by decide +kernel
theorem dX4_takesSign_108 : decode cX4_takesSign 108 = .ok (.aload_n 0, 1) := by decide +kernel
theorem dX4_takesSign_109 : decode cX4_takesSign 109 = .ok (.iload_n 1, 1) := by decide +kernel
theorem dX4_takesSign_110 : decode cX4_takesSign 110 = .ok (.invokevirtual 68, 3) := by decide +kernel
theorem dX4_takesSign_113 : decode cX4_takesSign 113 = .ok (.aload_n 0, 1) := by decide +kernel
theorem dX4_takesSign_114 : decode cX4_takesSign 114 = .ok (.iconst 1, 1) := by decide +kernel
theorem dX4_takesSign_115 : decode cX4_takesSign 115 = .ok (.putfield 34, 3) := by decide +kernel
theorem dX4_takesSign_118 : decode cX4_takesSign 118 = .ok (.iconst 1, 1) := by decide +kernel
theorem dX4_takesSign_119 : decode cX4_takesSign 119 = .ok (.ireturn, 1) := by decide +kernel
theorem dX4_takesDigit_0 : decode cX4_takesDigit 0 = .ok (.aload_n 0, 1) := by decide +kernel
theorem dX4_takesDigit_1 : decode cX4_takesDigit 1 = .ok (.getfield 28, 3) := by decide +kernel
theorem dX4_takesDigit_4 : decode cX4_takesDigit 4 = .ok (.ifCond .le 15, 3) := by decide +kernel
theorem dX4_takesDigit_7 : decode cX4_takesDigit 7 = .ok (.aload_n 0, 1) := by decide +kernel
theorem dX4_takesDigit_8 : decode cX4_takesDigit 8 = .ok (.getfield 31, 3) := by decide +kernel
theorem dX4_takesDigit_11 : decode cX4_takesDigit 11 = .ok (.aload_n 0, 1) := by decide +kernel
theorem dX4_takesDigit_12 : decode cX4_takesDigit 12 = .ok (.getfield 11, 3) := by decide +kernel
theorem dX4_takesDigit_15 : decode cX4_takesDigit 15 = .ok (.arraylength, 1) := by decide +kernel
theorem dX4_takesDigit_16 : decode cX4_takesDigit 16 = .ok (.if_icmp .lt 5, 3) := by decide +kernel
theorem dX4_takesDigit_19 : decode cX4_takesDigit 19 = .ok (.iconst 0, 1) := by decide +kernel
theorem dX4_takesDigit_20 : decode cX4_takesDigit 20 = .ok (.ireturn, 1) := by decide +kernel
theorem dX4_takesDigit_21 : decode cX4_takesDigit 21 = .ok (.aload_n 0, 1) := by decide +kernel
theorem dX4_takesDigit_22 : decode cX4_takesDigit 22 = .ok (.dup, 1) := by decide +kernel
theorem dX4_takesDigit_23 : decode cX4_takesDigit 23 = .ok (.getfield 28, 3) := by decide +kernel
theorem dX4_takesDigit_26 : decode cX4_takesDigit 26 = .ok (.iconst 1, 1) := by decide +kernel
theorem dX4_takesDigit_27 : decode cX4_takesDigit 27 = .ok (.isub, 1) := by decide +kernel
theorem dX4_takesDigit_28 : decode cX4_takesDigit 28 = .ok (.putfield 28, 3) := by decide +kernel
theorem dX4_takesDigit_31 : decode cX4_takesDigit 31 = .ok (.aload_n 0, 1) := by decide +kernel
theorem dX4_takesDigit_32 : decode cX4_takesDigit 32 = .ok (.getfield 11, 3) := by decide +kernel
theorem dX4_takesDigit_35 : decode cX4_takesDigit 35 = .ok (.aload_n 0, 1) := by decide +kernel
theorem dX4_takesDigit_36 : decode cX4_takesDigit 36 = .ok (.getfield 31, 3) := by decide +kernel
theorem dX4_takesDigit_39 : decode cX4_takesDigit 39 = .ok (.aload_n 0, 1) := by decide +kernel
theorem dX4_takesDigit_40 : decode cX4_takesDigit 40 = .ok (.getfield 11, 3) := by decide +kernel
theorem dX4_takesDigit_43 : decode cX4_takesDigit 43 = .ok (.aload_n 0, 1) := by decide +kernel
theorem dX4_takesDigit_44 : decode cX4_takesDigit 44 = .ok (.getfield 31, 3) := by decide +kernel
theorem dX4_takesDigit_47 : decode cX4_takesDigit 47 = .ok (.iaload, 1) := by decide +kernel
theorem dX4_takesDigit_48 : decode cX4_takesDigit 48 = .ok (.bipush 10, 2) := by decide +kernel
theorem dX4_takesDigit_50 : decode cX4_takesDigit 50 = .ok (.imul, 1) := by decide +kernel
theorem dX4_takesDigit_51 : decode cX4_takesDigit 51 = .ok (.iload_n 1, 1) := by decide +kernel
theorem dX4_takesDigit_52 : decode cX4_takesDigit 52 = .ok (.bipush 48, 2) := by decide +kernel
theorem dX4_takesDigit_54 : decode cX4_takesDigit 54 = .ok (.isub, 1) := by decide +kernel
theorem dX4_takesDigit_55 : decode cX4_takesDigit 55 = .ok (.iadd, 1) := by decide +kernel
theorem dX4_takesDigit_56 : decode cX4_takesDigit 56 = .ok (.iastore, 1) := by decide +kernel
theorem dX4_takesDigit_57 : decode cX4_takesDigit 57 = .ok (.iconst 1, 1) := by decide +kernel
theorem dX4_takesDigit_58 : decode cX4_takesDigit 58 = .ok (.ireturn, 1) := by decide +kernel
theorem dX4_closes_0 : decode cX4_closes 0 = .ok (.aload_n 0, 1) := by decide +kernel
theorem dX4_closes_1 : decode cX4_closes 1 = .ok (.iconst 1, 1) := by decide +kernel
theorem dX4_closes_2 : decode cX4_closes 2 = .ok (.invokevirtual 84, 3) := by decide +kernel
theorem dX4_closes_5 : decode cX4_closes 5 = .ok (.pop, 1) := by decide +kernel
theorem dX4_closes_6 : decode cX4_closes 6 = .ok (.aload_n 0, 1) := by decide +kernel
theorem dX4_closes_7 : decode cX4_closes 7 = .ok (.getfield 22, 3) := by decide +kernel
theorem dX4_closes_10 : decode cX4_closes 10 = .ok (.ifCond .ne 5, 3) := by decide +kernel
theorem dX4_closes_13 : decode cX4_closes 13 = .ok (.iconst 0, 1) := by decide +kernel
theorem dX4_closes_14 : decode cX4_closes 14 = .ok (.ireturn, 1) := by decide +kernel
theorem dX4_closes_15 : decode cX4_closes 15 = .ok (.aload_n 0, 1) := by decide +kernel
theorem dX4_closes_16 : decode cX4_closes 16 = .ok (.dup, 1) := by decide +kernel
theorem dX4_closes_17 : decode cX4_closes 17 = .ok (.getfield 22, 3) := by decide +kernel
theorem dX4_closes_20 : decode cX4_closes 20 = .ok (.iconst 1, 1) := by decide +kernel
theorem dX4_closes_21 : decode cX4_closes 21 = .ok (.isub, 1) := by decide +kernel
theorem dX4_closes_22 : decode cX4_closes 22 = .ok (.putfield 22, 3) := by decide +kernel
theorem dX4_closes_25 : decode cX4_closes 25 = .ok (.aload_n 0, 1) := by decide +kernel
theorem dX4_closes_26 : decode cX4_closes 26 = .ok (.dup, 1) := by decide +kernel
theorem dX4_closes_27 : decode cX4_closes 27 = .ok (.getfield 25, 3) := by decide +kernel
theorem dX4_closes_30 : decode cX4_closes 30 = .ok (.iconst 1, 1) := by decide +kernel
theorem dX4_closes_31 : decode cX4_closes 31 = .ok (.isub, 1) := by decide +kernel
theorem dX4_closes_32 : decode cX4_closes 32 = .ok (.putfield 25, 3) := by decide +kernel
theorem dX4_closes_35 : decode cX4_closes 35 = .ok (.aload_n 0, 1) := by decide +kernel
theorem dX4_closes_36 : decode cX4_closes 36 = .ok (.iconst 0, 1) := by decide +kernel
theorem dX4_closes_37 : decode cX4_closes 37 = .ok (.invokevirtual 62, 3) := by decide +kernel
theorem dX4_closes_40 : decode cX4_closes 40 = .ok (.iconst 1, 1) := by decide +kernel
theorem dX4_closes_41 : decode cX4_closes 41 = .ok (.ireturn, 1) := by decide +kernel
theorem dX4_endsPart_0 : decode cX4_endsPart 0 = .ok (.aload_n 0, 1) := by decide +kernel
theorem dX4_endsPart_1 : decode cX4_endsPart 1 = .ok (.invokevirtual 51, 3) := by decide +kernel
theorem dX4_endsPart_4 : decode cX4_endsPart 4 = .ok (.ifCond .eq 16, 3) := by decide +kernel
theorem dX4_endsPart_7 : decode cX4_endsPart 7 = .ok (.iload_n 1, 1) := by decide +kernel
theorem dX4_endsPart_8 : decode cX4_endsPart 8 = .ok (.bipush 63, 2) := by decide +kernel
theorem dX4_endsPart_10 : decode cX4_endsPart 10 = .ok (.if_icmp .ne 12, 3) := by decide +kernel
theorem dX4_endsPart_13 : decode cX4_endsPart 13 = .ok (.aload_n 0, 1) := by decide +kernel
theorem dX4_endsPart_14 : decode cX4_endsPart 14 = .ok (.getfield 38, 3) := by decide +kernel
theorem dX4_endsPart_17 : decode cX4_endsPart 17 = .ok (.ifCond .eq 5, 3) := by decide +kernel
theorem dX4_endsPart_20 : decode cX4_endsPart 20 = .ok (.iconst 0, 1) := by decide +kernel
theorem dX4_endsPart_21 : decode cX4_endsPart 21 = .ok (.ireturn, 1) := by decide +kernel
theorem dX4_endsPart_22 : decode cX4_endsPart 22 = .ok (.aload_n 0, 1) := by decide +kernel
theorem dX4_endsPart_23 : decode cX4_endsPart 23 = .ok (.iload_n 1, 1) := by decide +kernel
theorem dX4_endsPart_24 : decode cX4_endsPart 24 = .ok (.bipush 63, 2) := by decide +kernel
theorem dX4_endsPart_26 : decode cX4_endsPart 26 = .ok (.if_icmp .ne 7, 3) := by decide +kernel
theorem dX4_endsPart_29 : decode cX4_endsPart 29 = .ok (.iconst 1, 1) := by decide +kernel
theorem dX4_endsPart_30 : decode cX4_endsPart 30 = .ok (.goto 4, 3) := by decide +kernel
theorem dX4_endsPart_33 : decode cX4_endsPart 33 = .ok (.iconst 0, 1) := by decide +kernel
theorem dX4_endsPart_34 : decode cX4_endsPart 34 = .ok (.putfield 38, 3) := by decide +kernel
theorem dX4_endsPart_37 : decode cX4_endsPart 37 = .ok (.iload_n 1, 1) := by decide +kernel
theorem dX4_endsPart_38 : decode cX4_endsPart 38 = .ok (.bipush 59, 2) := by decide +kernel
theorem dX4_endsPart_40 : decode cX4_endsPart 40 = .ok (.if_icmp .ne 9, 3) := by decide +kernel
theorem dX4_endsPart_43 : decode cX4_endsPart 43 = .ok (.aload_n 0, 1) := by decide +kernel
theorem dX4_endsPart_44 : decode cX4_endsPart 44 = .ok (.bipush (-59), 2) := by decide +kernel
theorem dX4_endsPart_46 : decode cX4_endsPart 46 = .ok (.invokevirtual 55, 3) := by decide +kernel
theorem dX4_endsPart_49 : decode cX4_endsPart 49 = .ok (.aload_n 0, 1) := by decide +kernel
theorem dX4_endsPart_50 : decode cX4_endsPart 50 = .ok (.iconst 1, 1) := by decide +kernel
theorem dX4_endsPart_51 : decode cX4_endsPart 51 = .ok (.putfield 34, 3) := by decide +kernel
theorem dX4_endsPart_54 : decode cX4_endsPart 54 = .ok (.iconst 1, 1) := by decide +kernel
theorem dX4_endsPart_55 : decode cX4_endsPart 55 = .ok (.ireturn, 1) := by decide +kernel
theorem dX4_endsE_0 : decode cX4_endsE 0 = .ok (.aload_n 0, 1) := by decide +kernel
theorem dX4_endsE_1 : decode cX4_endsE 1 = .ok (.iconst 1, 1) := by decide +kernel
theorem dX4_endsE_2 : decode cX4_endsE 2 = .ok (.invokevirtual 84, 3) := by decide +kernel
theorem dX4_endsE_5 : decode cX4_endsE 5 = .ok (.pop, 1) := by decide +kernel
theorem dX4_endsE_6 : decode cX4_endsE 6 = .ok (.aload_n 0, 1) := by decide +kernel
theorem dX4_endsE_7 : decode cX4_endsE 7 = .ok (.getfield 22, 3) := by decide +kernel
theorem dX4_endsE_10 : decode cX4_endsE 10 = .ok (.ifCond .ne 7, 3) := by decide +kernel
theorem dX4_endsE_13 : decode cX4_endsE 13 = .ok (.iconst 1, 1) := by decide +kernel
theorem dX4_endsE_14 : decode cX4_endsE 14 = .ok (.goto 4, 3) := by decide +kernel
theorem dX4_endsE_17 : decode cX4_endsE 17 = .ok (.iconst 0, 1) := by decide +kernel
theorem dX4_endsE_18 : decode cX4_endsE 18 = .ok (.ireturn, 1) := by decide +kernel
theorem dX4_endOperand_0 : decode cX4_endOperand 0 = .ok (.aload_n 0, 1) := by decide +kernel
theorem dX4_endOperand_1 : decode cX4_endOperand 1 = .ok (.iload_n 1, 1) := by decide +kernel
theorem dX4_endOperand_2 : decode cX4_endOperand 2 = .ok (.putfield 28, 3) := by decide +kernel
theorem dX4_endOperand_5 : decode cX4_endOperand 5 = .ok (.aload_n 0, 1) := by decide +kernel
theorem dX4_endOperand_6 : decode cX4_endOperand 6 = .ok (.iconst 0, 1) := by decide +kernel
theorem dX4_endOperand_7 : decode cX4_endOperand 7 = .ok (.putfield 34, 3) := by decide +kernel
theorem dX4_endOperand_10 : decode cX4_endOperand 10 = .ok (.aload_n 0, 1) := by decide +kernel
theorem dX4_endOperand_11 : decode cX4_endOperand 11 = .ok (.dup, 1) := by decide +kernel
theorem dX4_endOperand_12 : decode cX4_endOperand 12 = .ok (.getfield 25, 3) := by decide +kernel
theorem dX4_endOperand_15 : decode cX4_endOperand 15 = .ok (.aload_n 0, 1) := by decide +kernel
theorem dX4_endOperand_16 : decode cX4_endOperand 16 = .ok (.bipush 6, 2) := by decide +kernel
theorem dX4_endOperand_18 : decode cX4_endOperand 18 = .ok (.invokevirtual 84, 3) := by decide +kernel
theorem dX4_endOperand_21 : decode cX4_endOperand 21 = .ok (.isub, 1) := by decide +kernel
theorem dX4_endOperand_22 : decode cX4_endOperand 22 = .ok (.putfield 25, 3) := by decide +kernel
theorem dX4_endOperand_25 : decode cX4_endOperand 25 = .ok (.return_, 1) := by decide +kernel
theorem dX4_release_0 : decode cX4_release 0 = .ok (.iconst 0, 1) := by decide +kernel
theorem dX4_release_1 : decode cX4_release 1 = .ok (.istore_n 2, 1) := by decide +kernel
theorem dX4_release_2 : decode cX4_release 2 = .ok (.aload_n 0, 1) := by decide +kernel
theorem dX4_release_3 : decode cX4_release 3 = .ok (.getfield 22, 3) := by decide +kernel
theorem dX4_release_6 : decode cX4_release 6 = .ok (.iconst 1, 1) := by decide +kernel
theorem dX4_release_7 : decode cX4_release 7 = .ok (.isub, 1) := by decide +kernel
theorem dX4_release_8 : decode cX4_release 8 = .ok (.istore_n 3, 1) := by decide +kernel
theorem dX4_release_9 : decode cX4_release 9 = .ok (.iload_n 3, 1) := by decide +kernel
theorem dX4_release_10 : decode cX4_release 10 = .ok (.ifCond .lt 36, 3) := by decide +kernel
theorem dX4_release_13 : decode cX4_release 13 = .ok (.aload_n 0, 1) := by decide +kernel
theorem dX4_release_14 : decode cX4_release 14 = .ok (.getfield 19, 3) := by decide +kernel
theorem dX4_release_17 : decode cX4_release 17 = .ok (.iload_n 3, 1) := by decide +kernel
theorem dX4_release_18 : decode cX4_release 18 = .ok (.iaload, 1) := by decide +kernel
theorem dX4_release_19 : decode cX4_release 19 = .ok (.invokestatic 80, 3) := by decide +kernel
theorem dX4_release_22 : decode cX4_release 22 = .ok (.iload_n 1, 1) := by decide +kernel
theorem dX4_release_23 : decode cX4_release 23 = .ok (.if_icmp .lt 23, 3) := by decide +kernel
theorem dX4_release_26 : decode cX4_release 26 = .ok (.aload_n 0, 1) := by decide +kernel
theorem dX4_release_27 : decode cX4_release 27 = .ok (.aload_n 0, 1) := by decide +kernel
theorem dX4_release_28 : decode cX4_release 28 = .ok (.getfield 19, 3) := by decide +kernel
theorem dX4_release_31 : decode cX4_release 31 = .ok (.iload_n 3, 1) := by decide +kernel
theorem dX4_release_32 : decode cX4_release 32 = .ok (.iaload, 1) := by decide +kernel
theorem dX4_release_33 : decode cX4_release 33 = .ok (.ineg, 1) := by decide +kernel
theorem dX4_release_34 : decode cX4_release 34 = .ok (.invokevirtual 55, 3) := by decide +kernel
theorem dX4_release_37 : decode cX4_release 37 = .ok (.iinc 2 1, 3) := by decide +kernel
theorem dX4_release_40 : decode cX4_release 40 = .ok (.iinc 3 (-1), 3) := by decide +kernel
theorem dX4_release_43 : decode cX4_release 43 = .ok (.goto (-34), 3) := by decide +kernel
theorem dX4_release_46 : decode cX4_release 46 = .ok (.aload_n 0, 1) := by decide +kernel
theorem dX4_release_47 : decode cX4_release 47 = .ok (.dup, 1) := by decide +kernel
theorem dX4_release_48 : decode cX4_release 48 = .ok (.getfield 22, 3) := by decide +kernel
theorem dX4_release_51 : decode cX4_release 51 = .ok (.iload_n 2, 1) := by decide +kernel
theorem dX4_release_52 : decode cX4_release 52 = .ok (.isub, 1) := by decide +kernel
theorem dX4_release_53 : decode cX4_release 53 = .ok (.putfield 22, 3) := by decide +kernel
theorem dX4_release_56 : decode cX4_release 56 = .ok (.iload_n 2, 1) := by decide +kernel
theorem dX4_release_57 : decode cX4_release 57 = .ok (.ireturn, 1) := by decide +kernel
theorem dX4_await_0 : decode cX4_await 0 = .ok (.aload_n 0, 1) := by decide +kernel
theorem dX4_await_1 : decode cX4_await 1 = .ok (.getfield 22, 3) := by decide +kernel
theorem dX4_await_4 : decode cX4_await 4 = .ok (.aload_n 0, 1) := by decide +kernel
theorem dX4_await_5 : decode cX4_await 5 = .ok (.getfield 19, 3) := by decide +kernel
theorem dX4_await_8 : decode cX4_await 8 = .ok (.arraylength, 1) := by decide +kernel
theorem dX4_await_9 : decode cX4_await 9 = .ok (.if_icmp .ge 23, 3) := by decide +kernel
theorem dX4_await_12 : decode cX4_await 12 = .ok (.aload_n 0, 1) := by decide +kernel
theorem dX4_await_13 : decode cX4_await 13 = .ok (.getfield 19, 3) := by decide +kernel
theorem dX4_await_16 : decode cX4_await 16 = .ok (.aload_n 0, 1) := by decide +kernel
theorem dX4_await_17 : decode cX4_await 17 = .ok (.getfield 22, 3) := by decide +kernel
theorem dX4_await_20 : decode cX4_await 20 = .ok (.iload_n 1, 1) := by decide +kernel
theorem dX4_await_21 : decode cX4_await 21 = .ok (.iastore, 1) := by decide +kernel
theorem dX4_await_22 : decode cX4_await 22 = .ok (.aload_n 0, 1) := by decide +kernel
theorem dX4_await_23 : decode cX4_await 23 = .ok (.dup, 1) := by decide +kernel
theorem dX4_await_24 : decode cX4_await 24 = .ok (.getfield 22, 3) := by decide +kernel
theorem dX4_await_27 : decode cX4_await 27 = .ok (.iconst 1, 1) := by decide +kernel
theorem dX4_await_28 : decode cX4_await 28 = .ok (.iadd, 1) := by decide +kernel
theorem dX4_await_29 : decode cX4_await 29 = .ok (.putfield 22, 3) := by decide +kernel
theorem dX4_await_32 : decode cX4_await 32 = .ok (.return_, 1) := by decide +kernel
theorem dX4_emit_0 : decode cX4_emit 0 = .ok (.aload_n 0, 1) := by decide +kernel
theorem dX4_emit_1 : decode cX4_emit 1 = .ok (.getfield 15, 3) := by decide +kernel
theorem dX4_emit_4 : decode cX4_emit 4 = .ok (.aload_n 0, 1) := by decide +kernel
theorem dX4_emit_5 : decode cX4_emit 5 = .ok (.getfield 11, 3) := by decide +kernel
theorem dX4_emit_8 : decode cX4_emit 8 = .ok (.arraylength, 1) := by decide +kernel
theorem dX4_emit_9 : decode cX4_emit 9 = .ok (.if_icmp .ge 23, 3) := by decide +kernel
theorem dX4_emit_12 : decode cX4_emit 12 = .ok (.aload_n 0, 1) := by decide +kernel
theorem dX4_emit_13 : decode cX4_emit 13 = .ok (.getfield 11, 3) := by decide +kernel
theorem dX4_emit_16 : decode cX4_emit 16 = .ok (.aload_n 0, 1) := by decide +kernel
theorem dX4_emit_17 : decode cX4_emit 17 = .ok (.getfield 15, 3) := by decide +kernel
theorem dX4_emit_20 : decode cX4_emit 20 = .ok (.iload_n 1, 1) := by decide +kernel
theorem dX4_emit_21 : decode cX4_emit 21 = .ok (.iastore, 1) := by decide +kernel
theorem dX4_emit_22 : decode cX4_emit 22 = .ok (.aload_n 0, 1) := by decide +kernel
theorem dX4_emit_23 : decode cX4_emit 23 = .ok (.dup, 1) := by decide +kernel
theorem dX4_emit_24 : decode cX4_emit 24 = .ok (.getfield 15, 3) := by decide +kernel
theorem dX4_emit_27 : decode cX4_emit 27 = .ok (.iconst 1, 1) := by decide +kernel
theorem dX4_emit_28 : decode cX4_emit 28 = .ok (.iadd, 1) := by decide +kernel
theorem dX4_emit_29 : decode cX4_emit 29 = .ok (.putfield 15, 3) := by decide +kernel
theorem dX4_emit_32 : decode cX4_emit 32 = .ok (.return_, 1) := by decide +kernel
theorem dX4_isDigit_0 : decode cX4_isDigit 0 = .ok (.iload_n 0, 1) := by decide +kernel
theorem dX4_isDigit_1 : decode cX4_isDigit 1 = .ok (.bipush 48, 2) := by decide +kernel
theorem dX4_isDigit_3 : decode cX4_isDigit 3 = .ok (.if_icmp .lt 13, 3) := by decide +kernel
theorem dX4_isDigit_6 : decode cX4_isDigit 6 = .ok (.iload_n 0, 1) := by decide +kernel
theorem dX4_isDigit_7 : decode cX4_isDigit 7 = .ok (.bipush 57, 2) := by decide +kernel
theorem dX4_isDigit_9 : decode cX4_isDigit 9 = .ok (.if_icmp .gt 7, 3) := by decide +kernel
theorem dX4_isDigit_12 : decode cX4_isDigit 12 = .ok (.iconst 1, 1) := by decide +kernel
theorem dX4_isDigit_13 : decode cX4_isDigit 13 = .ok (.goto 4, 3) := by decide +kernel
theorem dX4_isDigit_16 : decode cX4_isDigit 16 = .ok (.iconst 0, 1) := by decide +kernel
theorem dX4_isDigit_17 : decode cX4_isDigit 17 = .ok (.ireturn, 1) := by decide +kernel
theorem dX4_isName_0 : decode cX4_isName 0 = .ok (.iload_n 0, 1) := by decide +kernel
theorem dX4_isName_1 : decode cX4_isName 1 = .ok (.bipush 114, 2) := by decide +kernel
theorem dX4_isName_3 : decode cX4_isName 3 = .ok (.if_icmp .eq 33, 3) := by decide +kernel
theorem dX4_isName_6 : decode cX4_isName 6 = .ok (.iload_n 0, 1) := by decide +kernel
theorem dX4_isName_7 : decode cX4_isName 7 = .ok (.bipush 108, 2) := by decide +kernel
theorem dX4_isName_9 : decode cX4_isName 9 = .ok (.if_icmp .eq 27, 3) := by decide +kernel
theorem dX4_isName_12 : decode cX4_isName 12 = .ok (.iload_n 0, 1) := by decide +kernel
theorem dX4_isName_13 : decode cX4_isName 13 = .ok (.bipush 104, 2) := by decide +kernel
theorem dX4_isName_15 : decode cX4_isName 15 = .ok (.if_icmp .eq 21, 3) := by decide +kernel
theorem dX4_isName_18 : decode cX4_isName 18 = .ok (.iload_n 0, 1) := by decide +kernel
theorem dX4_isName_19 : decode cX4_isName 19 = .ok (.bipush 109, 2) := by decide +kernel
theorem dX4_isName_21 : decode cX4_isName 21 = .ok (.if_icmp .eq 15, 3) := by decide +kernel
theorem dX4_isName_24 : decode cX4_isName 24 = .ok (.iload_n 0, 1) := by decide +kernel
theorem dX4_isName_25 : decode cX4_isName 25 = .ok (.bipush 110, 2) := by decide +kernel
theorem dX4_isName_27 : decode cX4_isName 27 = .ok (.if_icmp .eq 9, 3) := by decide +kernel
theorem dX4_isName_30 : decode cX4_isName 30 = .ok (.iload_n 0, 1) := by decide +kernel
theorem dX4_isName_31 : decode cX4_isName 31 = .ok (.bipush 103, 2) := by decide +kernel
theorem dX4_isName_33 : decode cX4_isName 33 = .ok (.if_icmp .ne 7, 3) := by decide +kernel
theorem dX4_isName_36 : decode cX4_isName 36 = .ok (.iconst 1, 1) := by decide +kernel
theorem dX4_isName_37 : decode cX4_isName 37 = .ok (.goto 4, 3) := by decide +kernel
theorem dX4_isName_40 : decode cX4_isName 40 = .ok (.iconst 0, 1) := by decide +kernel
theorem dX4_isName_41 : decode cX4_isName 41 = .ok (.ireturn, 1) := by decide +kernel
theorem dX4_rankOf_0 : decode cX4_rankOf 0 = .ok (.iload_n 0, 1) := by decide +kernel
theorem dX4_rankOf_1 : decode cX4_rankOf 1 = .ok (.lookupswitch 120 #[(33, 117), (37, 115), (38, 109), (42, 115), (43, 113), (45, 113), (47, 115), (60, 111), (61, 111), (62, 111), (124, 107), (126, 117)], 107) := by decide +kernel
theorem dX4_rankOf_108 : decode cX4_rankOf 108 = .ok (.iconst 1, 1) := by decide +kernel
theorem dX4_rankOf_109 : decode cX4_rankOf 109 = .ok (.ireturn, 1) := by decide +kernel
theorem dX4_rankOf_110 : decode cX4_rankOf 110 = .ok (.iconst 2, 1) := by decide +kernel
theorem dX4_rankOf_111 : decode cX4_rankOf 111 = .ok (.ireturn, 1) := by decide +kernel
theorem dX4_rankOf_112 : decode cX4_rankOf 112 = .ok (.iconst 3, 1) := by decide +kernel
theorem dX4_rankOf_113 : decode cX4_rankOf 113 = .ok (.ireturn, 1) := by decide +kernel
theorem dX4_rankOf_114 : decode cX4_rankOf 114 = .ok (.iconst 4, 1) := by decide +kernel
theorem dX4_rankOf_115 : decode cX4_rankOf 115 = .ok (.ireturn, 1) := by decide +kernel
theorem dX4_rankOf_116 : decode cX4_rankOf 116 = .ok (.iconst 5, 1) := by decide +kernel
theorem dX4_rankOf_117 : decode cX4_rankOf 117 = .ok (.ireturn, 1) := by decide +kernel
theorem dX4_rankOf_118 : decode cX4_rankOf 118 = .ok (.bipush 6, 2) := by decide +kernel
theorem dX4_rankOf_120 : decode cX4_rankOf 120 = .ok (.ireturn, 1) := by decide +kernel
theorem dX4_rankOf_121 : decode cX4_rankOf 121 = .ok (.iconst 0, 1) := by decide +kernel
theorem dX4_rankOf_122 : decode cX4_rankOf 122 = .ok (.ireturn, 1) := by decide +kernel
theorem dX5_init_0 : decode cX5_init 0 = .ok (.aload_n 0, 1) := by decide +kernel
theorem dX5_init_1 : decode cX5_init 1 = .ok (.invokespecial 3, 3) := by decide +kernel
theorem dX5_init_4 : decode cX5_init 4 = .ok (.aload_n 0, 1) := by decide +kernel
theorem dX5_init_5 : decode cX5_init 5 = .ok (.iconst 0, 1) := by decide +kernel
theorem dX5_init_6 : decode cX5_init 6 = .ok (.putfield 11, 3) := by decide +kernel
theorem dX5_init_9 : decode cX5_init 9 = .ok (.aload_n 0, 1) := by decide +kernel
theorem dX5_init_10 : decode cX5_init 10 = .ok (.iconst (-1), 1) := by decide +kernel
theorem dX5_init_11 : decode cX5_init 11 = .ok (.putfield 15, 3) := by decide +kernel
theorem dX5_init_14 : decode cX5_init 14 = .ok (.aload_n 0, 1) := by decide +kernel
theorem dX5_init_15 : decode cX5_init 15 = .ok (.iconst 0, 1) := by decide +kernel
theorem dX5_init_16 : decode cX5_init 16 = .ok (.putfield 18, 3) := by decide +kernel
theorem dX5_init_19 : decode cX5_init 19 = .ok (.aload_n 0, 1) := by decide +kernel
theorem dX5_init_20 : decode cX5_init 20 = .ok (.iconst 0, 1) := by decide +kernel
theorem dX5_init_21 : decode cX5_init 21 = .ok (.putfield 21, 3) := by decide +kernel
theorem dX5_init_24 : decode cX5_init 24 = .ok (.aload_n 0, 1) := by decide +kernel
theorem dX5_init_25 : decode cX5_init 25 = .ok (.bipush 60, 2) := by decide +kernel
theorem dX5_init_27 : decode cX5_init 27 = .ok (.newarray .long, 2) := by decide +kernel
theorem dX5_init_29 : decode cX5_init 29 = .ok (.putfield 24, 3) := by decide +kernel
theorem dX5_init_32 : decode cX5_init 32 = .ok (.return_, 1) := by decide +kernel
theorem dX5_isRowOf_0 : decode cX5_isRowOf 0 = .ok (.aload_n 0, 1) := by decide +kernel
theorem dX5_isRowOf_1 : decode cX5_isRowOf 1 = .ok (.getfield 11, 3) := by decide +kernel
theorem dX5_isRowOf_4 : decode cX5_isRowOf 4 = .ok (.iconst 2, 1) := by decide +kernel
theorem dX5_isRowOf_5 : decode cX5_isRowOf 5 = .ok (.if_icmp .ne 15, 3) := by decide +kernel
theorem dX5_isRowOf_8 : decode cX5_isRowOf 8 = .ok (.aload_n 0, 1) := by decide +kernel
theorem dX5_isRowOf_9 : decode cX5_isRowOf 9 = .ok (.getfield 18, 3) := by decide +kernel
theorem dX5_isRowOf_12 : decode cX5_isRowOf 12 = .ok (.iload_n 1, 1) := by decide +kernel
theorem dX5_isRowOf_13 : decode cX5_isRowOf 13 = .ok (.if_icmp .ne 7, 3) := by decide +kernel
theorem dX5_isRowOf_16 : decode cX5_isRowOf 16 = .ok (.iconst 1, 1) := by decide +kernel
theorem dX5_isRowOf_17 : decode cX5_isRowOf 17 = .ok (.goto 4, 3) := by decide +kernel
theorem dX5_isRowOf_20 : decode cX5_isRowOf 20 = .ok (.iconst 0, 1) := by decide +kernel
theorem dX5_isRowOf_21 : decode cX5_isRowOf 21 = .ok (.ireturn, 1) := by decide +kernel
theorem dX5_holdRow_0 : decode cX5_holdRow 0 = .ok (.aload_n 0, 1) := by decide +kernel
theorem dX5_holdRow_1 : decode cX5_holdRow 1 = .ok (.iconst 2, 1) := by decide +kernel
theorem dX5_holdRow_2 : decode cX5_holdRow 2 = .ok (.putfield 11, 3) := by decide +kernel
theorem dX5_holdRow_5 : decode cX5_holdRow 5 = .ok (.aload_n 0, 1) := by decide +kernel
theorem dX5_holdRow_6 : decode cX5_holdRow 6 = .ok (.iload_n 1, 1) := by decide +kernel
theorem dX5_holdRow_7 : decode cX5_holdRow 7 = .ok (.putfield 18, 3) := by decide +kernel
theorem dX5_holdRow_10 : decode cX5_holdRow 10 = .ok (.aload_n 0, 1) := by decide +kernel
theorem dX5_holdRow_11 : decode cX5_holdRow 11 = .ok (.iconst 0, 1) := by decide +kernel
theorem dX5_holdRow_12 : decode cX5_holdRow 12 = .ok (.bipush 60, 2) := by decide +kernel
theorem dX5_holdRow_14 : decode cX5_holdRow 14 = .ok (.iload_n 2, 1) := by decide +kernel
theorem dX5_holdRow_15 : decode cX5_holdRow 15 = .ok (.invokestatic 28, 3) := by decide +kernel
theorem dX5_holdRow_18 : decode cX5_holdRow 18 = .ok (.invokestatic 34, 3) := by decide +kernel
theorem dX5_holdRow_21 : decode cX5_holdRow 21 = .ok (.putfield 21, 3) := by decide +kernel
theorem dX5_holdRow_24 : decode cX5_holdRow 24 = .ok (.iconst 0, 1) := by decide +kernel
theorem dX5_holdRow_25 : decode cX5_holdRow 25 = .ok (.istore_n 3, 1) := by decide +kernel
theorem dX5_holdRow_26 : decode cX5_holdRow 26 = .ok (.iload_n 3, 1) := by decide +kernel
theorem dX5_holdRow_27 : decode cX5_holdRow 27 = .ok (.bipush 60, 2) := by decide +kernel
theorem dX5_holdRow_29 : decode cX5_holdRow 29 = .ok (.if_icmp .ge 16, 3) := by decide +kernel
theorem dX5_holdRow_32 : decode cX5_holdRow 32 = .ok (.aload_n 0, 1) := by decide +kernel
theorem dX5_holdRow_33 : decode cX5_holdRow 33 = .ok (.getfield 24, 3) := by decide +kernel
theorem dX5_holdRow_36 : decode cX5_holdRow 36 = .ok (.iload_n 3, 1) := by decide +kernel
theorem dX5_holdRow_37 : decode cX5_holdRow 37 = .ok (.lconst 0, 1) := by decide +kernel
theorem dX5_holdRow_38 : decode cX5_holdRow 38 = .ok (.lastore, 1) := by decide +kernel
theorem dX5_holdRow_39 : decode cX5_holdRow 39 = .ok (.iinc 3 1, 3) := by decide +kernel
theorem dX5_holdRow_42 : decode cX5_holdRow 42 = .ok (.goto (-16), 3) := by decide +kernel
theorem dX5_holdRow_45 : decode cX5_holdRow 45 = .ok (.return_, 1) := by decide +kernel
theorem dX5_hasPlaces_0 : decode cX5_hasPlaces 0 = .ok (.iload_n 1, 1) := by decide +kernel
theorem dX5_hasPlaces_1 : decode cX5_hasPlaces 1 = .ok (.ifCond .lt 25, 3) := by decide +kernel
theorem dX5_hasPlaces_4 : decode cX5_hasPlaces 4 = .ok (.iload_n 2, 1) := by decide +kernel
theorem dX5_hasPlaces_5 : decode cX5_hasPlaces 5 = .ok (.ifCond .lt 21, 3) := by decide +kernel
theorem dX5_hasPlaces_8 : decode cX5_hasPlaces 8 = .ok (.iload_n 1, 1) := by decide +kernel
theorem dX5_hasPlaces_9 : decode cX5_hasPlaces 9 = .ok (.i2l, 1) := by decide +kernel
theorem dX5_hasPlaces_10 : decode cX5_hasPlaces 10 = .ok (.iload_n 2, 1) := by decide +kernel
theorem dX5_hasPlaces_11 : decode cX5_hasPlaces 11 = .ok (.i2l, 1) := by decide +kernel
theorem dX5_hasPlaces_12 : decode cX5_hasPlaces 12 = .ok (.ladd, 1) := by decide +kernel
theorem dX5_hasPlaces_13 : decode cX5_hasPlaces 13 = .ok (.aload_n 0, 1) := by decide +kernel
theorem dX5_hasPlaces_14 : decode cX5_hasPlaces 14 = .ok (.getfield 21, 3) := by decide +kernel
theorem dX5_hasPlaces_17 : decode cX5_hasPlaces 17 = .ok (.i2l, 1) := by decide +kernel
theorem dX5_hasPlaces_18 : decode cX5_hasPlaces 18 = .ok (.lcmp, 1) := by decide +kernel
theorem dX5_hasPlaces_19 : decode cX5_hasPlaces 19 = .ok (.ifCond .gt 7, 3) := by decide +kernel
theorem dX5_hasPlaces_22 : decode cX5_hasPlaces 22 = .ok (.iconst 1, 1) := by decide +kernel
theorem dX5_hasPlaces_23 : decode cX5_hasPlaces 23 = .ok (.goto 4, 3) := by decide +kernel
theorem dX5_hasPlaces_26 : decode cX5_hasPlaces 26 = .ok (.iconst 0, 1) := by decide +kernel
theorem dX5_hasPlaces_27 : decode cX5_hasPlaces 27 = .ok (.ireturn, 1) := by decide +kernel
theorem dX5_cut_0 : decode cX5_cut 0 = .ok (.aload_n 0, 1) := by decide +kernel
theorem dX5_cut_1 : decode cX5_cut 1 = .ok (.getfield 18, 3) := by decide +kernel
theorem dX5_cut_4 : decode cX5_cut 4 = .ok (.tableswitch 48 0 3 #[32, 37, 42, 46], 32) := by decide +kernel
theorem dX5_cut_36 : decode cX5_cut 36 = .ok (.lload_n 1, 1) := by decide +kernel
theorem dX5_cut_37 : decode cX5_cut 37 = .ok (.l2i, 1) := by decide +kernel
theorem dX5_cut_38 : decode cX5_cut 38 = .ok (.i2b, 1) := by decide +kernel
theorem dX5_cut_39 : decode cX5_cut 39 = .ok (.i2l, 1) := by decide +kernel
theorem dX5_cut_40 : decode cX5_cut 40 = .ok (.lreturn, 1) := by decide +kernel
theorem dX5_cut_41 : decode cX5_cut 41 = .ok (.lload_n 1, 1) := by decide +kernel
theorem dX5_cut_42 : decode cX5_cut 42 = .ok (.l2i, 1) := by decide +kernel
theorem dX5_cut_43 : decode cX5_cut 43 = .ok (.i2s, 1) := by decide +kernel
theorem dX5_cut_44 : decode cX5_cut 44 = .ok (.i2l, 1) := by decide +kernel
theorem dX5_cut_45 : decode cX5_cut 45 = .ok (.lreturn, 1) := by decide +kernel
theorem dX5_cut_46 : decode cX5_cut 46 = .ok (.lload_n 1, 1) := by decide +kernel
theorem dX5_cut_47 : decode cX5_cut 47 = .ok (.l2i, 1) := by decide +kernel
theorem dX5_cut_48 : decode cX5_cut 48 = .ok (.i2l, 1) := by decide +kernel
theorem dX5_cut_49 : decode cX5_cut 49 = .ok (.lreturn, 1) := by decide +kernel
theorem dX5_cut_50 : decode cX5_cut 50 = .ok (.lload_n 1, 1) := by decide +kernel
theorem dX5_cut_51 : decode cX5_cut 51 = .ok (.lreturn, 1) := by decide +kernel
theorem dX5_cut_52 : decode cX5_cut 52 = .ok (.lload_n 1, 1) := by decide +kernel
theorem dX5_cut_53 : decode cX5_cut 53 = .ok (.lconst 0, 1) := by decide +kernel
theorem dX5_cut_54 : decode cX5_cut 54 = .ok (.lcmp, 1) := by decide +kernel
theorem dX5_cut_55 : decode cX5_cut 55 = .ok (.ifCond .eq 7, 3) := by decide +kernel
theorem dX5_cut_58 : decode cX5_cut 58 = .ok (.lconst 1, 1) := by decide +kernel
theorem dX5_cut_59 : decode cX5_cut 59 = .ok (.goto 4, 3) := by decide +kernel
theorem dX5_cut_62 : decode cX5_cut 62 = .ok (.lconst 0, 1) := by decide +kernel
theorem dX5_cut_63 : decode cX5_cut 63 = .ok (.lreturn, 1) := by decide +kernel
theorem dX6_init_0 : decode cX6_init 0 = .ok (.aload_n 0, 1) := by decide +kernel
theorem dX6_init_1 : decode cX6_init 1 = .ok (.invokespecial 3, 3) := by decide +kernel
theorem dX6_init_4 : decode cX6_init 4 = .ok (.aload_n 0, 1) := by decide +kernel
theorem dX6_init_5 : decode cX6_init 5 = .ok (.new 9, 3) := by decide +kernel
theorem dX6_init_8 : decode cX6_init 8 = .ok (.dup, 1) := by decide +kernel
theorem dX6_init_9 : decode cX6_init 9 = .ok (.invokespecial 11, 3) := by decide +kernel
theorem dX6_init_12 : decode cX6_init 12 = .ok (.putfield 12, 3) := by decide +kernel
theorem dX6_init_15 : decode cX6_init 15 = .ok (.aload_n 0, 1) := by decide +kernel
theorem dX6_init_16 : decode cX6_init 16 = .ok (.bipush 9, 2) := by decide +kernel
theorem dX6_init_18 : decode cX6_init 18 = .ok (.newarray .int, 2) := by decide +kernel
theorem dX6_init_20 : decode cX6_init 20 = .ok (.putfield 18, 3) := by decide +kernel
theorem dX6_init_23 : decode cX6_init 23 = .ok (.aload_n 0, 1) := by decide +kernel
theorem dX6_init_24 : decode cX6_init 24 = .ok (.iconst 0, 1) := by decide +kernel
theorem dX6_init_25 : decode cX6_init 25 = .ok (.putfield 22, 3) := by decide +kernel
theorem dX6_init_28 : decode cX6_init 28 = .ok (.aload_n 0, 1) := by decide +kernel
theorem dX6_init_29 : decode cX6_init 29 = .ok (.iconst 0, 1) := by decide +kernel
theorem dX6_init_30 : decode cX6_init 30 = .ok (.putfield 26, 3) := by decide +kernel
theorem dX6_init_33 : decode cX6_init 33 = .ok (.aload_n 0, 1) := by decide +kernel
theorem dX6_init_34 : decode cX6_init 34 = .ok (.iconst 0, 1) := by decide +kernel
theorem dX6_init_35 : decode cX6_init 35 = .ok (.putfield 29, 3) := by decide +kernel
theorem dX6_init_38 : decode cX6_init 38 = .ok (.aload_n 0, 1) := by decide +kernel
theorem dX6_init_39 : decode cX6_init 39 = .ok (.aload_n 1, 1) := by decide +kernel
theorem dX6_init_40 : decode cX6_init 40 = .ok (.putfield 32, 3) := by decide +kernel
theorem dX6_init_43 : decode cX6_init 43 = .ok (.aload_n 0, 1) := by decide +kernel
theorem dX6_init_44 : decode cX6_init 44 = .ok (.aload_n 2, 1) := by decide +kernel
theorem dX6_init_45 : decode cX6_init 45 = .ok (.putfield 35, 3) := by decide +kernel
theorem dX6_init_48 : decode cX6_init 48 = .ok (.return_, 1) := by decide +kernel
theorem dX6_startBehind_0 : decode cX6_startBehind 0 = .ok (.aload_n 0, 1) := by decide +kernel
theorem dX6_startBehind_1 : decode cX6_startBehind 1 = .ok (.getfield 12, 3) := by decide +kernel
theorem dX6_startBehind_4 : decode cX6_startBehind 4 = .ok (.aload_n 0, 1) := by decide +kernel
theorem dX6_startBehind_5 : decode cX6_startBehind 5 = .ok (.getfield 32, 3) := by decide +kernel
theorem dX6_startBehind_8 : decode cX6_startBehind 8 = .ok (.invokevirtual 39, 3) := by decide +kernel
theorem dX6_startBehind_11 : decode cX6_startBehind 11 = .ok (.iconst 0, 1) := by decide +kernel
theorem dX6_startBehind_12 : decode cX6_startBehind 12 = .ok (.istore_n 2, 1) := by decide +kernel
theorem dX6_startBehind_13 : decode cX6_startBehind 13 = .ok (.iload_n 2, 1) := by decide +kernel
theorem dX6_startBehind_14 : decode cX6_startBehind 14 = .ok (.iload_n 1, 1) := by decide +kernel
theorem dX6_startBehind_15 : decode cX6_startBehind 15 = .ok (.if_icmp .ge 16, 3) := by decide +kernel
theorem dX6_startBehind_18 : decode cX6_startBehind 18 = .ok (.aload_n 0, 1) := by decide +kernel
theorem dX6_startBehind_19 : decode cX6_startBehind 19 = .ok (.getfield 12, 3) := by decide +kernel
theorem dX6_startBehind_22 : decode cX6_startBehind 22 = .ok (.invokevirtual 43, 3) := by decide +kernel
theorem dX6_startBehind_25 : decode cX6_startBehind 25 = .ok (.iinc 2 1, 3) := by decide +kernel
theorem dX6_startBehind_28 : decode cX6_startBehind 28 = .ok (.goto (-15), 3) := by decide +kernel
theorem dX6_startBehind_31 : decode cX6_startBehind 31 = .ok (.return_, 1) := by decide +kernel
theorem dX6_allGo_0 : decode cX6_allGo 0 = .ok (.aload_n 0, 1) := by decide +kernel
theorem dX6_allGo_1 : decode cX6_allGo 1 = .ok (.iconst 0, 1) := by decide +kernel
theorem dX6_allGo_2 : decode cX6_allGo 2 = .ok (.putfield 22, 3) := by decide +kernel
theorem dX6_allGo_5 : decode cX6_allGo 5 = .ok (.aload_n 0, 1) := by decide +kernel
theorem dX6_allGo_6 : decode cX6_allGo 6 = .ok (.iconst 0, 1) := by decide +kernel
theorem dX6_allGo_7 : decode cX6_allGo 7 = .ok (.putfield 26, 3) := by decide +kernel
theorem dX6_allGo_10 : decode cX6_allGo 10 = .ok (.iconst 0, 1) := by decide +kernel
theorem dX6_allGo_11 : decode cX6_allGo 11 = .ok (.istore_n 2, 1) := by decide +kernel
theorem dX6_allGo_12 : decode cX6_allGo 12 = .ok (.iload_n 2, 1) := by decide +kernel
theorem dX6_allGo_13 : decode cX6_allGo 13 = .ok (.bipush 9, 2) := by decide +kernel
theorem dX6_allGo_15 : decode cX6_allGo 15 = .ok (.if_icmp .ge 106, 3) := by decide +kernel
theorem dX6_allGo_18 : decode cX6_allGo 18 = .ok (.aload_n 0, 1) := by decide +kernel
theorem dX6_allGo_19 : decode cX6_allGo 19 = .ok (.getfield 35, 3) := by decide +kernel
theorem dX6_allGo_22 : decode cX6_allGo 22 = .ok (.aload_n 0, 1) := by decide +kernel
theorem dX6_allGo_23 : decode cX6_allGo 23 = .ok (.getfield 12, 3) := by decide +kernel
theorem dX6_allGo_26 : decode cX6_allGo 26 = .ok (.iload_n 1, 1) := by decide +kernel
theorem dX6_allGo_27 : decode cX6_allGo 27 = .ok (.invokevirtual 46, 3) := by decide +kernel
theorem dX6_allGo_30 : decode cX6_allGo 30 = .ok (.istore_n 3, 1) := by decide +kernel
theorem dX6_allGo_31 : decode cX6_allGo 31 = .ok (.iload_n 3, 1) := by decide +kernel
theorem dX6_allGo_32 : decode cX6_allGo 32 = .ok (.ifCond .ge 16, 3) := by decide +kernel
theorem dX6_allGo_35 : decode cX6_allGo 35 = .ok (.aload_n 0, 1) := by decide +kernel
theorem dX6_allGo_36 : decode cX6_allGo 36 = .ok (.getfield 12, 3) := by decide +kernel
theorem dX6_allGo_39 : decode cX6_allGo 39 = .ok (.iload_n 1, 1) := by decide +kernel
theorem dX6_allGo_40 : decode cX6_allGo 40 = .ok (.invokevirtual 52, 3) := by decide +kernel
theorem dX6_allGo_43 : decode cX6_allGo 43 = .ok (.ifCond .eq 5, 3) := by decide +kernel
theorem dX6_allGo_46 : decode cX6_allGo 46 = .ok (.iload_n 1, 1) := by decide +kernel
theorem dX6_allGo_47 : decode cX6_allGo 47 = .ok (.istore_n 3, 1) := by decide +kernel
theorem dX6_allGo_48 : decode cX6_allGo 48 = .ok (.aload_n 0, 1) := by decide +kernel
theorem dX6_allGo_49 : decode cX6_allGo 49 = .ok (.getfield 12, 3) := by decide +kernel
theorem dX6_allGo_52 : decode cX6_allGo 52 = .ok (.iload_n 3, 1) := by decide +kernel
theorem dX6_allGo_53 : decode cX6_allGo 53 = .ok (.invokevirtual 52, 3) := by decide +kernel
theorem dX6_allGo_56 : decode cX6_allGo 56 = .ok (.ifCond .ne 4, 3) := by decide +kernel
theorem dX6_allGo_59 : decode cX6_allGo 59 = .ok (.return_, 1) := by decide +kernel
theorem dX6_allGo_60 : decode cX6_allGo 60 = .ok (.aload_n 0, 1) := by decide +kernel
theorem dX6_allGo_61 : decode cX6_allGo 61 = .ok (.getfield 18, 3) := by decide +kernel
theorem dX6_allGo_64 : decode cX6_allGo 64 = .ok (.aload_n 0, 1) := by decide +kernel
theorem dX6_allGo_65 : decode cX6_allGo 65 = .ok (.getfield 22, 3) := by decide +kernel
theorem dX6_allGo_68 : decode cX6_allGo 68 = .ok (.iload_n 3, 1) := by decide +kernel
theorem dX6_allGo_69 : decode cX6_allGo 69 = .ok (.iastore, 1) := by decide +kernel
theorem dX6_allGo_70 : decode cX6_allGo 70 = .ok (.aload_n 0, 1) := by decide +kernel
theorem dX6_allGo_71 : decode cX6_allGo 71 = .ok (.dup, 1) := by decide +kernel
theorem dX6_allGo_72 : decode cX6_allGo 72 = .ok (.getfield 22, 3) := by decide +kernel
theorem dX6_allGo_75 : decode cX6_allGo 75 = .ok (.iconst 1, 1) := by decide +kernel
theorem dX6_allGo_76 : decode cX6_allGo 76 = .ok (.iadd, 1) := by decide +kernel
theorem dX6_allGo_77 : decode cX6_allGo 77 = .ok (.putfield 22, 3) := by decide +kernel
theorem dX6_allGo_80 : decode cX6_allGo 80 = .ok (.aload_n 0, 1) := by decide +kernel
theorem dX6_allGo_81 : decode cX6_allGo 81 = .ok (.dup, 1) := by decide +kernel
theorem dX6_allGo_82 : decode cX6_allGo 82 = .ok (.getfield 26, 3) := by decide +kernel
theorem dX6_allGo_85 : decode cX6_allGo 85 = .ok (.aload_n 0, 1) := by decide +kernel
theorem dX6_allGo_86 : decode cX6_allGo 86 = .ok (.getfield 12, 3) := by decide +kernel
theorem dX6_allGo_89 : decode cX6_allGo 89 = .ok (.getfield 56, 3) := by decide +kernel
theorem dX6_allGo_92 : decode cX6_allGo 92 = .ok (.iload_n 3, 1) := by decide +kernel
theorem dX6_allGo_93 : decode cX6_allGo 93 = .ok (.iaload, 1) := by decide +kernel
theorem dX6_allGo_94 : decode cX6_allGo 94 = .ok (.iadd, 1) := by decide +kernel
theorem dX6_allGo_95 : decode cX6_allGo 95 = .ok (.putfield 26, 3) := by decide +kernel
theorem dX6_allGo_98 : decode cX6_allGo 98 = .ok (.aload_n 0, 1) := by decide +kernel
theorem dX6_allGo_99 : decode cX6_allGo 99 = .ok (.getfield 12, 3) := by decide +kernel
theorem dX6_allGo_102 : decode cX6_allGo 102 = .ok (.getfield 59, 3) := by decide +kernel
theorem dX6_allGo_105 : decode cX6_allGo 105 = .ok (.iload_n 3, 1) := by decide +kernel
theorem dX6_allGo_106 : decode cX6_allGo 106 = .ok (.iconst 1, 1) := by decide +kernel
theorem dX6_allGo_107 : decode cX6_allGo 107 = .ok (.iastore, 1) := by decide +kernel
theorem dX6_allGo_108 : decode cX6_allGo 108 = .ok (.aload_n 0, 1) := by decide +kernel
theorem dX6_allGo_109 : decode cX6_allGo 109 = .ok (.getfield 12, 3) := by decide +kernel
theorem dX6_allGo_112 : decode cX6_allGo 112 = .ok (.invokevirtual 43, 3) := by decide +kernel
theorem dX6_allGo_115 : decode cX6_allGo 115 = .ok (.iinc 2 1, 3) := by decide +kernel
theorem dX6_allGo_118 : decode cX6_allGo 118 = .ok (.goto (-106), 3) := by decide +kernel
theorem dX6_allGo_121 : decode cX6_allGo 121 = .ok (.return_, 1) := by decide +kernel
theorem dX6_placeOfGoer_0 : decode cX6_placeOfGoer 0 = .ok (.iconst 0, 1) := by decide +kernel
theorem dX6_placeOfGoer_1 : decode cX6_placeOfGoer 1 = .ok (.istore_n 2, 1) := by decide +kernel
theorem dX6_placeOfGoer_2 : decode cX6_placeOfGoer 2 = .ok (.iload_n 2, 1) := by decide +kernel
theorem dX6_placeOfGoer_3 : decode cX6_placeOfGoer 3 = .ok (.aload_n 0, 1) := by decide +kernel
theorem dX6_placeOfGoer_4 : decode cX6_placeOfGoer 4 = .ok (.getfield 22, 3) := by decide +kernel
theorem dX6_placeOfGoer_7 : decode cX6_placeOfGoer 7 = .ok (.if_icmp .ge 21, 3) := by decide +kernel
theorem dX6_placeOfGoer_10 : decode cX6_placeOfGoer 10 = .ok (.aload_n 0, 1) := by decide +kernel
theorem dX6_placeOfGoer_11 : decode cX6_placeOfGoer 11 = .ok (.getfield 18, 3) := by decide +kernel
theorem dX6_placeOfGoer_14 : decode cX6_placeOfGoer 14 = .ok (.iload_n 2, 1) := by decide +kernel
theorem dX6_placeOfGoer_15 : decode cX6_placeOfGoer 15 = .ok (.iaload, 1) := by decide +kernel
theorem dX6_placeOfGoer_16 : decode cX6_placeOfGoer 16 = .ok (.iload_n 1, 1) := by decide +kernel
theorem dX6_placeOfGoer_17 : decode cX6_placeOfGoer 17 = .ok (.if_icmp .ne 5, 3) := by decide +kernel
theorem dX6_placeOfGoer_20 : decode cX6_placeOfGoer 20 = .ok (.iload_n 2, 1) := by decide +kernel
theorem dX6_placeOfGoer_21 : decode cX6_placeOfGoer 21 = .ok (.ireturn, 1) := by decide +kernel
theorem dX6_placeOfGoer_22 : decode cX6_placeOfGoer 22 = .ok (.iinc 2 1, 3) := by decide +kernel
theorem dX6_placeOfGoer_25 : decode cX6_placeOfGoer 25 = .ok (.goto (-23), 3) := by decide +kernel
theorem dX6_placeOfGoer_28 : decode cX6_placeOfGoer 28 = .ok (.bipush 9, 2) := by decide +kernel
theorem dX6_placeOfGoer_30 : decode cX6_placeOfGoer 30 = .ok (.ireturn, 1) := by decide +kernel
theorem dX6_placeBySlip_0 : decode cX6_placeBySlip 0 = .ok (.aload_n 0, 1) := by decide +kernel
theorem dX6_placeBySlip_1 : decode cX6_placeBySlip 1 = .ok (.getfield 12, 3) := by decide +kernel
theorem dX6_placeBySlip_4 : decode cX6_placeBySlip 4 = .ok (.aload_n 0, 1) := by decide +kernel
theorem dX6_placeBySlip_5 : decode cX6_placeBySlip 5 = .ok (.getfield 32, 3) := by decide +kernel
theorem dX6_placeBySlip_8 : decode cX6_placeBySlip 8 = .ok (.invokevirtual 39, 3) := by decide +kernel
theorem dX6_placeBySlip_11 : decode cX6_placeBySlip 11 = .ok (.aload_n 0, 1) := by decide +kernel
theorem dX6_placeBySlip_12 : decode cX6_placeBySlip 12 = .ok (.getfield 12, 3) := by decide +kernel
theorem dX6_placeBySlip_15 : decode cX6_placeBySlip 15 = .ok (.iload_n 1, 1) := by decide +kernel
theorem dX6_placeBySlip_16 : decode cX6_placeBySlip 16 = .ok (.aload_n 0, 1) := by decide +kernel
theorem dX6_placeBySlip_17 : decode cX6_placeBySlip 17 = .ok (.getfield 32, 3) := by decide +kernel
theorem dX6_placeBySlip_20 : decode cX6_placeBySlip 20 = .ok (.getfield 62, 3) := by decide +kernel
theorem dX6_placeBySlip_23 : decode cX6_placeBySlip 23 = .ok (.iload_n 2, 1) := by decide +kernel
theorem dX6_placeBySlip_24 : decode cX6_placeBySlip 24 = .ok (.iadd, 1) := by decide +kernel
theorem dX6_placeBySlip_25 : decode cX6_placeBySlip 25 = .ok (.iload_n 3, 1) := by decide +kernel
theorem dX6_placeBySlip_26 : decode cX6_placeBySlip 26 = .ok (.invokevirtual 65, 3) := by decide +kernel
theorem dX6_placeBySlip_29 : decode cX6_placeBySlip 29 = .ok (.pop, 1) := by decide +kernel
theorem dX6_placeBySlip_30 : decode cX6_placeBySlip 30 = .ok (.iconst 0, 1) := by decide +kernel
theorem dX6_placeBySlip_31 : decode cX6_placeBySlip 31 = .ok (.istore 5, 2) := by decide +kernel
theorem dX6_placeBySlip_33 : decode cX6_placeBySlip 33 = .ok (.iload 5, 2) := by decide +kernel
theorem dX6_placeBySlip_35 : decode cX6_placeBySlip 35 = .ok (.iload 4, 2) := by decide +kernel
theorem dX6_placeBySlip_37 : decode cX6_placeBySlip 37 = .ok (.if_icmp .ge 16, 3) := by decide +kernel
theorem dX6_placeBySlip_40 : decode cX6_placeBySlip 40 = .ok (.aload_n 0, 1) := by decide +kernel
theorem dX6_placeBySlip_41 : decode cX6_placeBySlip 41 = .ok (.getfield 12, 3) := by decide +kernel
theorem dX6_placeBySlip_44 : decode cX6_placeBySlip 44 = .ok (.invokevirtual 43, 3) := by decide +kernel
theorem dX6_placeBySlip_47 : decode cX6_placeBySlip 47 = .ok (.iinc 5 1, 3) := by decide +kernel
theorem dX6_placeBySlip_50 : decode cX6_placeBySlip 50 = .ok (.goto (-17), 3) := by decide +kernel
theorem dX6_placeBySlip_53 : decode cX6_placeBySlip 53 = .ok (.aload_n 0, 1) := by decide +kernel
theorem dX6_placeBySlip_54 : decode cX6_placeBySlip 54 = .ok (.bipush 9, 2) := by decide +kernel
theorem dX6_placeBySlip_56 : decode cX6_placeBySlip 56 = .ok (.invokevirtual 69, 3) := by decide +kernel
theorem dX6_placeBySlip_59 : decode cX6_placeBySlip 59 = .ok (.aload_n 0, 1) := by decide +kernel
theorem dX6_placeBySlip_60 : decode cX6_placeBySlip 60 = .ok (.iload_n 1, 1) := by decide +kernel
theorem dX6_placeBySlip_61 : decode cX6_placeBySlip 61 = .ok (.invokevirtual 73, 3) := by decide +kernel
theorem dX6_placeBySlip_64 : decode cX6_placeBySlip 64 = .ok (.ireturn, 1) := by decide +kernel
theorem dX6_regretOfGoers_0 : decode cX6_regretOfGoers 0 = .ok (.aload_n 0, 1) := by decide +kernel
theorem dX6_regretOfGoers_1 : decode cX6_regretOfGoers 1 = .ok (.iconst 0, 1) := by decide +kernel
theorem dX6_regretOfGoers_2 : decode cX6_regretOfGoers 2 = .ok (.invokevirtual 77, 3) := by decide +kernel
theorem dX6_regretOfGoers_5 : decode cX6_regretOfGoers 5 = .ok (.aload_n 0, 1) := by decide +kernel
theorem dX6_regretOfGoers_6 : decode cX6_regretOfGoers 6 = .ok (.iload_n 1, 1) := by decide +kernel
theorem dX6_regretOfGoers_7 : decode cX6_regretOfGoers 7 = .ok (.invokevirtual 69, 3) := by decide +kernel
theorem dX6_regretOfGoers_10 : decode cX6_regretOfGoers 10 = .ok (.aload_n 0, 1) := by decide +kernel
theorem dX6_regretOfGoers_11 : decode cX6_regretOfGoers 11 = .ok (.getfield 26, 3) := by decide +kernel
theorem dX6_regretOfGoers_14 : decode cX6_regretOfGoers 14 = .ok (.ireturn, 1) := by decide +kernel
theorem dX6_firstOtherwise_0 : decode cX6_firstOtherwise 0 = .ok (.iconst 0, 1) := by decide +kernel
theorem dX6_firstOtherwise_1 : decode cX6_firstOtherwise 1 = .ok (.istore_n 2, 1) := by decide +kernel
theorem dX6_firstOtherwise_2 : decode cX6_firstOtherwise 2 = .ok (.iload_n 2, 1) := by decide +kernel
theorem dX6_firstOtherwise_3 : decode cX6_firstOtherwise 3 = .ok (.aload_n 1, 1) := by decide +kernel
theorem dX6_firstOtherwise_4 : decode cX6_firstOtherwise 4 = .ok (.getfield 80, 3) := by decide +kernel
theorem dX6_firstOtherwise_7 : decode cX6_firstOtherwise 7 = .ok (.if_icmp .ge 55, 3) := by decide +kernel
theorem dX6_firstOtherwise_10 : decode cX6_firstOtherwise 10 = .ok (.iload_n 2, 1) := by decide +kernel
theorem dX6_firstOtherwise_11 : decode cX6_firstOtherwise 11 = .ok (.bipush 9, 2) := by decide +kernel
theorem dX6_firstOtherwise_13 : decode cX6_firstOtherwise 13 = .ok (.if_icmp .ge 49, 3) := by decide +kernel
theorem dX6_firstOtherwise_16 : decode cX6_firstOtherwise 16 = .ok (.iload_n 2, 1) := by decide +kernel
theorem dX6_firstOtherwise_17 : decode cX6_firstOtherwise 17 = .ok (.aload_n 0, 1) := by decide +kernel
theorem dX6_firstOtherwise_18 : decode cX6_firstOtherwise 18 = .ok (.getfield 22, 3) := by decide +kernel
theorem dX6_firstOtherwise_21 : decode cX6_firstOtherwise 21 = .ok (.if_icmp .ge 33, 3) := by decide +kernel
theorem dX6_firstOtherwise_24 : decode cX6_firstOtherwise 24 = .ok (.aload_n 1, 1) := by decide +kernel
theorem dX6_firstOtherwise_25 : decode cX6_firstOtherwise 25 = .ok (.getfield 85, 3) := by decide +kernel
theorem dX6_firstOtherwise_28 : decode cX6_firstOtherwise 28 = .ok (.iload_n 2, 1) := by decide +kernel
theorem dX6_firstOtherwise_29 : decode cX6_firstOtherwise 29 = .ok (.laload, 1) := by decide +kernel
theorem dX6_firstOtherwise_30 : decode cX6_firstOtherwise 30 = .ok (.ldc2_w 89, 3) := by decide +kernel
theorem dX6_firstOtherwise_33 : decode cX6_firstOtherwise 33 = .ok (.lcmp, 1) := by decide +kernel
theorem dX6_firstOtherwise_34 : decode cX6_firstOtherwise 34 = .ok (.ifCond .eq 22, 3) := by decide +kernel
theorem dX6_firstOtherwise_37 : decode cX6_firstOtherwise 37 = .ok (.aload_n 1, 1) := by decide +kernel
theorem dX6_firstOtherwise_38 : decode cX6_firstOtherwise 38 = .ok (.getfield 85, 3) := by decide +kernel
theorem dX6_firstOtherwise_41 : decode cX6_firstOtherwise 41 = .ok (.iload_n 2, 1) := by decide +kernel
theorem dX6_firstOtherwise_42 : decode cX6_firstOtherwise 42 = .ok (.laload, 1) := by decide +kernel
theorem dX6_firstOtherwise_43 : decode cX6_firstOtherwise 43 = .ok (.aload_n 0, 1) := by decide +kernel
theorem dX6_firstOtherwise_44 : decode cX6_firstOtherwise 44 = .ok (.getfield 18, 3) := by decide +kernel
theorem dX6_firstOtherwise_47 : decode cX6_firstOtherwise 47 = .ok (.iload_n 2, 1) := by decide +kernel
theorem dX6_firstOtherwise_48 : decode cX6_firstOtherwise 48 = .ok (.iaload, 1) := by decide +kernel
theorem dX6_firstOtherwise_49 : decode cX6_firstOtherwise 49 = .ok (.i2l, 1) := by decide +kernel
theorem dX6_firstOtherwise_50 : decode cX6_firstOtherwise 50 = .ok (.lcmp, 1) := by decide +kernel
theorem dX6_firstOtherwise_51 : decode cX6_firstOtherwise 51 = .ok (.ifCond .eq 5, 3) := by decide +kernel
theorem dX6_firstOtherwise_54 : decode cX6_firstOtherwise 54 = .ok (.iload_n 2, 1) := by decide +kernel
theorem dX6_firstOtherwise_55 : decode cX6_firstOtherwise 55 = .ok (.ireturn, 1) := by decide +kernel
theorem dX6_firstOtherwise_56 : decode cX6_firstOtherwise 56 = .ok (.iinc 2 1, 3) := by decide +kernel
theorem dX6_firstOtherwise_59 : decode cX6_firstOtherwise 59 = .ok (.goto (-57), 3) := by decide +kernel
theorem dX6_firstOtherwise_62 : decode cX6_firstOtherwise 62 = .ok (.bipush (-2), 2) := by decide +kernel
theorem dX6_firstOtherwise_64 : decode cX6_firstOtherwise 64 = .ok (.ireturn, 1) := by decide +kernel
theorem dX6_sup_0 : decode cX6_sup 0 = .ok (.aload_n 0, 1) := by decide +kernel
theorem dX6_sup_1 : decode cX6_sup 1 = .ok (.getfield 12, 3) := by decide +kernel
theorem dX6_sup_4 : decode cX6_sup 4 = .ok (.aload_n 0, 1) := by decide +kernel
theorem dX6_sup_5 : decode cX6_sup 5 = .ok (.getfield 32, 3) := by decide +kernel
theorem dX6_sup_8 : decode cX6_sup 8 = .ok (.invokevirtual 39, 3) := by decide +kernel
theorem dX6_sup_11 : decode cX6_sup 11 = .ok (.iconst 0, 1) := by decide +kernel
theorem dX6_sup_12 : decode cX6_sup 12 = .ok (.istore_n 3, 1) := by decide +kernel
theorem dX6_sup_13 : decode cX6_sup 13 = .ok (.iload_n 3, 1) := by decide +kernel
theorem dX6_sup_14 : decode cX6_sup 14 = .ok (.iload_n 1, 1) := by decide +kernel
theorem dX6_sup_15 : decode cX6_sup 15 = .ok (.if_icmp .ge 126, 3) := by decide +kernel
theorem dX6_sup_18 : decode cX6_sup 18 = .ok (.aload_n 0, 1) := by decide +kernel
theorem dX6_sup_19 : decode cX6_sup 19 = .ok (.aload_n 0, 1) := by decide +kernel
theorem dX6_sup_20 : decode cX6_sup 20 = .ok (.getfield 29, 3) := by decide +kernel
theorem dX6_sup_23 : decode cX6_sup 23 = .ok (.ldc 91, 2) := by decide +kernel
theorem dX6_sup_25 : decode cX6_sup 25 = .ok (.imul, 1) := by decide +kernel
theorem dX6_sup_26 : decode cX6_sup 26 = .ok (.sipush 12345, 3) := by decide +kernel
theorem dX6_sup_29 : decode cX6_sup 29 = .ok (.iadd, 1) := by decide +kernel
theorem dX6_sup_30 : decode cX6_sup 30 = .ok (.putfield 29, 3) := by decide +kernel
theorem dX6_sup_33 : decode cX6_sup 33 = .ok (.aload_n 0, 1) := by decide +kernel
theorem dX6_sup_34 : decode cX6_sup 34 = .ok (.getfield 29, 3) := by decide +kernel
theorem dX6_sup_37 : decode cX6_sup 37 = .ok (.bipush 24, 2) := by decide +kernel
theorem dX6_sup_39 : decode cX6_sup 39 = .ok (.iushr, 1) := by decide +kernel
theorem dX6_sup_40 : decode cX6_sup 40 = .ok (.bipush 12, 2) := by decide +kernel
theorem dX6_sup_42 : decode cX6_sup 42 = .ok (.irem, 1) := by decide +kernel
theorem dX6_sup_43 : decode cX6_sup 43 = .ok (.iload_n 2, 1) := by decide +kernel
theorem dX6_sup_44 : decode cX6_sup 44 = .ok (.if_icmp .ge 84, 3) := by decide +kernel
theorem dX6_sup_47 : decode cX6_sup 47 = .ok (.aload_n 0, 1) := by decide +kernel
theorem dX6_sup_48 : decode cX6_sup 48 = .ok (.getfield 12, 3) := by decide +kernel
theorem dX6_sup_51 : decode cX6_sup 51 = .ok (.getfield 92, 3) := by decide +kernel
theorem dX6_sup_54 : decode cX6_sup 54 = .ok (.ifCond .le 74, 3) := by decide +kernel
theorem dX6_sup_57 : decode cX6_sup 57 = .ok (.aload_n 0, 1) := by decide +kernel
theorem dX6_sup_58 : decode cX6_sup 58 = .ok (.getfield 29, 3) := by decide +kernel
theorem dX6_sup_61 : decode cX6_sup 61 = .ok (.bipush 8, 2) := by decide +kernel
theorem dX6_sup_63 : decode cX6_sup 63 = .ok (.iushr, 1) := by decide +kernel
theorem dX6_sup_64 : decode cX6_sup 64 = .ok (.aload_n 0, 1) := by decide +kernel
theorem dX6_sup_65 : decode cX6_sup 65 = .ok (.getfield 12, 3) := by decide +kernel
theorem dX6_sup_68 : decode cX6_sup 68 = .ok (.getfield 92, 3) := by decide +kernel
theorem dX6_sup_71 : decode cX6_sup 71 = .ok (.irem, 1) := by decide +kernel
theorem dX6_sup_72 : decode cX6_sup 72 = .ok (.istore 4, 2) := by decide +kernel
theorem dX6_sup_74 : decode cX6_sup 74 = .ok (.aload_n 0, 1) := by decide +kernel
theorem dX6_sup_75 : decode cX6_sup 75 = .ok (.getfield 12, 3) := by decide +kernel
theorem dX6_sup_78 : decode cX6_sup 78 = .ok (.iload 4, 2) := by decide +kernel
theorem dX6_sup_80 : decode cX6_sup 80 = .ok (.invokevirtual 52, 3) := by decide +kernel
theorem dX6_sup_83 : decode cX6_sup 83 = .ok (.ifCond .eq 45, 3) := by decide +kernel
theorem dX6_sup_86 : decode cX6_sup 86 = .ok (.iconst 1, 1) := by decide +kernel
theorem dX6_sup_87 : decode cX6_sup 87 = .ok (.aload_n 0, 1) := by decide +kernel
theorem dX6_sup_88 : decode cX6_sup 88 = .ok (.getfield 29, 3) := by decide +kernel
theorem dX6_sup_91 : decode cX6_sup 91 = .ok (.bipush 16, 2) := by decide +kernel
theorem dX6_sup_93 : decode cX6_sup 93 = .ok (.iushr, 1) := by decide +kernel
theorem dX6_sup_94 : decode cX6_sup 94 = .ok (.bipush 20, 2) := by decide +kernel
theorem dX6_sup_96 : decode cX6_sup 96 = .ok (.irem, 1) := by decide +kernel
theorem dX6_sup_97 : decode cX6_sup 97 = .ok (.iadd, 1) := by decide +kernel
theorem dX6_sup_98 : decode cX6_sup 98 = .ok (.istore 5, 2) := by decide +kernel
theorem dX6_sup_100 : decode cX6_sup 100 = .ok (.aload_n 0, 1) := by decide +kernel
theorem dX6_sup_101 : decode cX6_sup 101 = .ok (.getfield 12, 3) := by decide +kernel
theorem dX6_sup_104 : decode cX6_sup 104 = .ok (.getfield 56, 3) := by decide +kernel
theorem dX6_sup_107 : decode cX6_sup 107 = .ok (.iload 4, 2) := by decide +kernel
theorem dX6_sup_109 : decode cX6_sup 109 = .ok (.bipush 99, 2) := by decide +kernel
theorem dX6_sup_111 : decode cX6_sup 111 = .ok (.aload_n 0, 1) := by decide +kernel
theorem dX6_sup_112 : decode cX6_sup 112 = .ok (.getfield 12, 3) := by decide +kernel
theorem dX6_sup_115 : decode cX6_sup 115 = .ok (.getfield 56, 3) := by decide +kernel
theorem dX6_sup_118 : decode cX6_sup 118 = .ok (.iload 4, 2) := by decide +kernel
theorem dX6_sup_120 : decode cX6_sup 120 = .ok (.iaload, 1) := by decide +kernel
theorem dX6_sup_121 : decode cX6_sup 121 = .ok (.iload 5, 2) := by decide +kernel
theorem dX6_sup_123 : decode cX6_sup 123 = .ok (.iadd, 1) := by decide +kernel
theorem dX6_sup_124 : decode cX6_sup 124 = .ok (.invokestatic 95, 3) := by decide +kernel
theorem dX6_sup_127 : decode cX6_sup 127 = .ok (.iastore, 1) := by decide +kernel
theorem dX6_sup_128 : decode cX6_sup 128 = .ok (.aload_n 0, 1) := by decide +kernel
theorem dX6_sup_129 : decode cX6_sup 129 = .ok (.getfield 12, 3) := by decide +kernel
theorem dX6_sup_132 : decode cX6_sup 132 = .ok (.invokevirtual 43, 3) := by decide +kernel
theorem dX6_sup_135 : decode cX6_sup 135 = .ok (.iinc 3 1, 3) := by decide +kernel
theorem dX6_sup_138 : decode cX6_sup 138 = .ok (.goto (-125), 3) := by decide +kernel
theorem dX6_sup_141 : decode cX6_sup 141 = .ok (.return_, 1) := by decide +kernel
theorem dX7_init_0 : decode cX7_init 0 = .ok (.aload_n 0, 1) := by decide +kernel
theorem dX7_init_1 : decode cX7_init 1 = .ok (.invokespecial 3, 3) := by decide +kernel
theorem dX7_init_4 : decode cX7_init 4 = .ok (.aload_n 0, 1) := by decide +kernel
theorem dX7_init_5 : decode cX7_init 5 = .ok (.bipush 9, 2) := by decide +kernel
theorem dX7_init_7 : decode cX7_init 7 = .ok (.newarray .int, 2) := by decide +kernel
theorem dX7_init_9 : decode cX7_init 9 = .ok (.putfield 9, 3) := by decide +kernel
theorem dX7_init_12 : decode cX7_init 12 = .ok (.aload_n 0, 1) := by decide +kernel
theorem dX7_init_13 : decode cX7_init 13 = .ok (.bipush 9, 2) := by decide +kernel
theorem dX7_init_15 : decode cX7_init 15 = .ok (.newarray .int, 2) := by decide +kernel
theorem dX7_init_17 : decode cX7_init 17 = .ok (.putfield 15, 3) := by decide +kernel
theorem dX7_init_20 : decode cX7_init 20 = .ok (.aload_n 0, 1) := by decide +kernel
theorem dX7_init_21 : decode cX7_init 21 = .ok (.bipush 9, 2) := by decide +kernel
theorem dX7_init_23 : decode cX7_init 23 = .ok (.newarray .int, 2) := by decide +kernel
theorem dX7_init_25 : decode cX7_init 25 = .ok (.putfield 18, 3) := by decide +kernel
theorem dX7_init_28 : decode cX7_init 28 = .ok (.aload_n 0, 1) := by decide +kernel
theorem dX7_init_29 : decode cX7_init 29 = .ok (.bipush 9, 2) := by decide +kernel
theorem dX7_init_31 : decode cX7_init 31 = .ok (.newarray .int, 2) := by decide +kernel
theorem dX7_init_33 : decode cX7_init 33 = .ok (.putfield 21, 3) := by decide +kernel
theorem dX7_init_36 : decode cX7_init 36 = .ok (.aload_n 0, 1) := by decide +kernel
theorem dX7_init_37 : decode cX7_init 37 = .ok (.bipush 9, 2) := by decide +kernel
theorem dX7_init_39 : decode cX7_init 39 = .ok (.newarray .int, 2) := by decide +kernel
theorem dX7_init_41 : decode cX7_init 41 = .ok (.putfield 24, 3) := by decide +kernel
theorem dX7_init_44 : decode cX7_init 44 = .ok (.aload_n 0, 1) := by decide +kernel
theorem dX7_init_45 : decode cX7_init 45 = .ok (.bipush 9, 2) := by decide +kernel
theorem dX7_init_47 : decode cX7_init 47 = .ok (.newarray .int, 2) := by decide +kernel
theorem dX7_init_49 : decode cX7_init 49 = .ok (.putfield 27, 3) := by decide +kernel
theorem dX7_init_52 : decode cX7_init 52 = .ok (.aload_n 0, 1) := by decide +kernel
theorem dX7_init_53 : decode cX7_init 53 = .ok (.bipush 13, 2) := by decide +kernel
theorem dX7_init_55 : decode cX7_init 55 = .ok (.newarray .int, 2) := by decide +kernel
theorem dX7_init_57 : decode cX7_init 57 = .ok (.putfield 30, 3) := by decide +kernel
theorem dX7_init_60 : decode cX7_init 60 = .ok (.aload_n 0, 1) := by decide +kernel
theorem dX7_init_61 : decode cX7_init 61 = .ok (.bipush 13, 2) := by decide +kernel
theorem dX7_init_63 : decode cX7_init 63 = .ok (.newarray .int, 2) := by decide +kernel
theorem dX7_init_65 : decode cX7_init 65 = .ok (.putfield 33, 3) := by decide +kernel
theorem dX7_init_68 : decode cX7_init 68 = .ok (.aload_n 0, 1) := by decide +kernel
theorem dX7_init_69 : decode cX7_init 69 = .ok (.bipush 13, 2) := by decide +kernel
theorem dX7_init_71 : decode cX7_init 71 = .ok (.newarray .int, 2) := by decide +kernel
theorem dX7_init_73 : decode cX7_init 73 = .ok (.putfield 36, 3) := by decide +kernel
theorem dX7_init_76 : decode cX7_init 76 = .ok (.aload_n 0, 1) := by decide +kernel
theorem dX7_init_77 : decode cX7_init 77 = .ok (.iconst 0, 1) := by decide +kernel
theorem dX7_init_78 : decode cX7_init 78 = .ok (.putfield 39, 3) := by decide +kernel
theorem dX7_init_81 : decode cX7_init 81 = .ok (.aload_n 0, 1) := by decide +kernel
theorem dX7_init_82 : decode cX7_init 82 = .ok (.iconst 0, 1) := by decide +kernel
theorem dX7_init_83 : decode cX7_init 83 = .ok (.putfield 43, 3) := by decide +kernel
theorem dX7_init_86 : decode cX7_init 86 = .ok (.aload_n 0, 1) := by decide +kernel
theorem dX7_init_87 : decode cX7_init 87 = .ok (.iconst 0, 1) := by decide +kernel
theorem dX7_init_88 : decode cX7_init 88 = .ok (.putfield 46, 3) := by decide +kernel
theorem dX7_init_91 : decode cX7_init 91 = .ok (.return_, 1) := by decide +kernel
theorem dX7_hasGuest_0 : decode cX7_hasGuest 0 = .ok (.iload_n 1, 1) := by decide +kernel
theorem dX7_hasGuest_1 : decode cX7_hasGuest 1 = .ok (.ifCond .lt 15, 3) := by decide +kernel
theorem dX7_hasGuest_4 : decode cX7_hasGuest 4 = .ok (.iload_n 1, 1) := by decide +kernel
theorem dX7_hasGuest_5 : decode cX7_hasGuest 5 = .ok (.aload_n 0, 1) := by decide +kernel
theorem dX7_hasGuest_6 : decode cX7_hasGuest 6 = .ok (.getfield 39, 3) := by decide +kernel
theorem dX7_hasGuest_9 : decode cX7_hasGuest 9 = .ok (.if_icmp .ge 7, 3) := by decide +kernel
theorem dX7_hasGuest_12 : decode cX7_hasGuest 12 = .ok (.iconst 1, 1) := by decide +kernel
theorem dX7_hasGuest_13 : decode cX7_hasGuest 13 = .ok (.goto 4, 3) := by decide +kernel
theorem dX7_hasGuest_16 : decode cX7_hasGuest 16 = .ok (.iconst 0, 1) := by decide +kernel
theorem dX7_hasGuest_17 : decode cX7_hasGuest 17 = .ok (.ireturn, 1) := by decide +kernel
theorem dX7_isLeft_0 : decode cX7_isLeft 0 = .ok (.aload_n 0, 1) := by decide +kernel
theorem dX7_isLeft_1 : decode cX7_isLeft 1 = .ok (.iload_n 1, 1) := by decide +kernel
theorem dX7_isLeft_2 : decode cX7_isLeft 2 = .ok (.invokevirtual 49, 3) := by decide +kernel
theorem dX7_isLeft_5 : decode cX7_isLeft 5 = .ok (.ifCond .eq 16, 3) := by decide +kernel
theorem dX7_isLeft_8 : decode cX7_isLeft 8 = .ok (.aload_n 0, 1) := by decide +kernel
theorem dX7_isLeft_9 : decode cX7_isLeft 9 = .ok (.getfield 27, 3) := by decide +kernel
theorem dX7_isLeft_12 : decode cX7_isLeft 12 = .ok (.iload_n 1, 1) := by decide +kernel
theorem dX7_isLeft_13 : decode cX7_isLeft 13 = .ok (.iaload, 1) := by decide +kernel
theorem dX7_isLeft_14 : decode cX7_isLeft 14 = .ok (.ifCond .ne 7, 3) := by decide +kernel
theorem dX7_isLeft_17 : decode cX7_isLeft 17 = .ok (.iconst 1, 1) := by decide +kernel
theorem dX7_isLeft_18 : decode cX7_isLeft 18 = .ok (.goto 4, 3) := by decide +kernel
theorem dX7_isLeft_21 : decode cX7_isLeft 21 = .ok (.iconst 0, 1) := by decide +kernel
theorem dX7_isLeft_22 : decode cX7_isLeft 22 = .ok (.ireturn, 1) := by decide +kernel
theorem dX7_howManyLeft_0 : decode cX7_howManyLeft 0 = .ok (.iconst 0, 1) := by decide +kernel
theorem dX7_howManyLeft_1 : decode cX7_howManyLeft 1 = .ok (.istore_n 1, 1) := by decide +kernel
theorem dX7_howManyLeft_2 : decode cX7_howManyLeft 2 = .ok (.iconst 0, 1) := by decide +kernel
theorem dX7_howManyLeft_3 : decode cX7_howManyLeft 3 = .ok (.istore_n 2, 1) := by decide +kernel
theorem dX7_howManyLeft_4 : decode cX7_howManyLeft 4 = .ok (.iload_n 2, 1) := by decide +kernel
theorem dX7_howManyLeft_5 : decode cX7_howManyLeft 5 = .ok (.aload_n 0, 1) := by decide +kernel
theorem dX7_howManyLeft_6 : decode cX7_howManyLeft 6 = .ok (.getfield 39, 3) := by decide +kernel
theorem dX7_howManyLeft_9 : decode cX7_howManyLeft 9 = .ok (.if_icmp .ge 20, 3) := by decide +kernel
theorem dX7_howManyLeft_12 : decode cX7_howManyLeft 12 = .ok (.iload_n 1, 1) := by decide +kernel
theorem dX7_howManyLeft_13 : decode cX7_howManyLeft 13 = .ok (.iconst 1, 1) := by decide +kernel
theorem dX7_howManyLeft_14 : decode cX7_howManyLeft 14 = .ok (.aload_n 0, 1) := by decide +kernel
theorem dX7_howManyLeft_15 : decode cX7_howManyLeft 15 = .ok (.getfield 27, 3) := by decide +kernel
theorem dX7_howManyLeft_18 : decode cX7_howManyLeft 18 = .ok (.iload_n 2, 1) := by decide +kernel
theorem dX7_howManyLeft_19 : decode cX7_howManyLeft 19 = .ok (.iaload, 1) := by decide +kernel
theorem dX7_howManyLeft_20 : decode cX7_howManyLeft 20 = .ok (.isub, 1) := by decide +kernel
theorem dX7_howManyLeft_21 : decode cX7_howManyLeft 21 = .ok (.iadd, 1) := by decide +kernel
theorem dX7_howManyLeft_22 : decode cX7_howManyLeft 22 = .ok (.istore_n 1, 1) := by decide +kernel
theorem dX7_howManyLeft_23 : decode cX7_howManyLeft 23 = .ok (.iinc 2 1, 3) := by decide +kernel
theorem dX7_howManyLeft_26 : decode cX7_howManyLeft 26 = .ok (.goto (-22), 3) := by decide +kernel
theorem dX7_howManyLeft_29 : decode cX7_howManyLeft 29 = .ok (.iload_n 1, 1) := by decide +kernel
theorem dX7_howManyLeft_30 : decode cX7_howManyLeft 30 = .ok (.ireturn, 1) := by decide +kernel
theorem dX7_howManyGloves_0 : decode cX7_howManyGloves 0 = .ok (.iconst 0, 1) := by decide +kernel
theorem dX7_howManyGloves_1 : decode cX7_howManyGloves 1 = .ok (.istore_n 3, 1) := by decide +kernel
theorem dX7_howManyGloves_2 : decode cX7_howManyGloves 2 = .ok (.iconst 0, 1) := by decide +kernel
theorem dX7_howManyGloves_3 : decode cX7_howManyGloves 3 = .ok (.istore 4, 2) := by decide +kernel
theorem dX7_howManyGloves_5 : decode cX7_howManyGloves 5 = .ok (.iload 4, 2) := by decide +kernel
theorem dX7_howManyGloves_7 : decode cX7_howManyGloves 7 = .ok (.aload_n 0, 1) := by decide +kernel
theorem dX7_howManyGloves_8 : decode cX7_howManyGloves 8 = .ok (.getfield 39, 3) := by decide +kernel
theorem dX7_howManyGloves_11 : decode cX7_howManyGloves 11 = .ok (.if_icmp .ge 44, 3) := by decide +kernel
theorem dX7_howManyGloves_14 : decode cX7_howManyGloves 14 = .ok (.aload_n 0, 1) := by decide +kernel
theorem dX7_howManyGloves_15 : decode cX7_howManyGloves 15 = .ok (.getfield 27, 3) := by decide +kernel
theorem dX7_howManyGloves_18 : decode cX7_howManyGloves 18 = .ok (.iload 4, 2) := by decide +kernel
theorem dX7_howManyGloves_20 : decode cX7_howManyGloves 20 = .ok (.iaload, 1) := by decide +kernel
theorem dX7_howManyGloves_21 : decode cX7_howManyGloves 21 = .ok (.ifCond .ne 28, 3) := by decide +kernel
theorem dX7_howManyGloves_24 : decode cX7_howManyGloves 24 = .ok (.aload_n 0, 1) := by decide +kernel
theorem dX7_howManyGloves_25 : decode cX7_howManyGloves 25 = .ok (.getfield 21, 3) := by decide +kernel
theorem dX7_howManyGloves_28 : decode cX7_howManyGloves 28 = .ok (.iload 4, 2) := by decide +kernel
theorem dX7_howManyGloves_30 : decode cX7_howManyGloves 30 = .ok (.iaload, 1) := by decide +kernel
theorem dX7_howManyGloves_31 : decode cX7_howManyGloves 31 = .ok (.iload_n 1, 1) := by decide +kernel
theorem dX7_howManyGloves_32 : decode cX7_howManyGloves 32 = .ok (.if_icmp .ne 17, 3) := by decide +kernel
theorem dX7_howManyGloves_35 : decode cX7_howManyGloves 35 = .ok (.aload_n 0, 1) := by decide +kernel
theorem dX7_howManyGloves_36 : decode cX7_howManyGloves 36 = .ok (.getfield 24, 3) := by decide +kernel
theorem dX7_howManyGloves_39 : decode cX7_howManyGloves 39 = .ok (.iload 4, 2) := by decide +kernel
theorem dX7_howManyGloves_41 : decode cX7_howManyGloves 41 = .ok (.iaload, 1) := by decide +kernel
theorem dX7_howManyGloves_42 : decode cX7_howManyGloves 42 = .ok (.iload_n 2, 1) := by decide +kernel
theorem dX7_howManyGloves_43 : decode cX7_howManyGloves 43 = .ok (.if_icmp .ne 6, 3) := by decide +kernel
theorem dX7_howManyGloves_46 : decode cX7_howManyGloves 46 = .ok (.iinc 3 1, 3) := by decide +kernel
theorem dX7_howManyGloves_49 : decode cX7_howManyGloves 49 = .ok (.iinc 4 1, 3) := by decide +kernel
theorem dX7_howManyGloves_52 : decode cX7_howManyGloves 52 = .ok (.goto (-47), 3) := by decide +kernel
theorem dX7_howManyGloves_55 : decode cX7_howManyGloves 55 = .ok (.iload_n 3, 1) := by decide +kernel
theorem dX7_howManyGloves_56 : decode cX7_howManyGloves 56 = .ok (.ireturn, 1) := by decide +kernel
theorem dX7_regretOfAll_0 : decode cX7_regretOfAll 0 = .ok (.iconst 0, 1) := by decide +kernel
theorem dX7_regretOfAll_1 : decode cX7_regretOfAll 1 = .ok (.istore_n 1, 1) := by decide +kernel
theorem dX7_regretOfAll_2 : decode cX7_regretOfAll 2 = .ok (.iconst 0, 1) := by decide +kernel
theorem dX7_regretOfAll_3 : decode cX7_regretOfAll 3 = .ok (.istore_n 2, 1) := by decide +kernel
theorem dX7_regretOfAll_4 : decode cX7_regretOfAll 4 = .ok (.iload_n 2, 1) := by decide +kernel
theorem dX7_regretOfAll_5 : decode cX7_regretOfAll 5 = .ok (.aload_n 0, 1) := by decide +kernel
theorem dX7_regretOfAll_6 : decode cX7_regretOfAll 6 = .ok (.getfield 39, 3) := by decide +kernel
theorem dX7_regretOfAll_9 : decode cX7_regretOfAll 9 = .ok (.if_icmp .ge 18, 3) := by decide +kernel
theorem dX7_regretOfAll_12 : decode cX7_regretOfAll 12 = .ok (.iload_n 1, 1) := by decide +kernel
theorem dX7_regretOfAll_13 : decode cX7_regretOfAll 13 = .ok (.aload_n 0, 1) := by decide +kernel
theorem dX7_regretOfAll_14 : decode cX7_regretOfAll 14 = .ok (.getfield 9, 3) := by decide +kernel
theorem dX7_regretOfAll_17 : decode cX7_regretOfAll 17 = .ok (.iload_n 2, 1) := by decide +kernel
theorem dX7_regretOfAll_18 : decode cX7_regretOfAll 18 = .ok (.iaload, 1) := by decide +kernel
theorem dX7_regretOfAll_19 : decode cX7_regretOfAll 19 = .ok (.iadd, 1) := by decide +kernel
theorem dX7_regretOfAll_20 : decode cX7_regretOfAll 20 = .ok (.istore_n 1, 1) := by decide +kernel
theorem dX7_regretOfAll_21 : decode cX7_regretOfAll 21 = .ok (.iinc 2 1, 3) := by decide +kernel
theorem dX7_regretOfAll_24 : decode cX7_regretOfAll 24 = .ok (.goto (-20), 3) := by decide +kernel
theorem dX7_regretOfAll_27 : decode cX7_regretOfAll 27 = .ok (.iload_n 1, 1) := by decide +kernel
theorem dX7_regretOfAll_28 : decode cX7_regretOfAll 28 = .ok (.ireturn, 1) := by decide +kernel
theorem dX7_addGuest_0 : decode cX7_addGuest 0 = .ok (.aload_n 0, 1) := by decide +kernel
theorem dX7_addGuest_1 : decode cX7_addGuest 1 = .ok (.getfield 39, 3) := by decide +kernel
theorem dX7_addGuest_4 : decode cX7_addGuest 4 = .ok (.bipush 9, 2) := by decide +kernel
theorem dX7_addGuest_6 : decode cX7_addGuest 6 = .ok (.if_icmp .lt 6, 3) := by decide +kernel
theorem dX7_addGuest_9 : decode cX7_addGuest 9 = .ok (.bipush (-3), 2) := by decide +kernel
theorem dX7_addGuest_11 : decode cX7_addGuest 11 = .ok (.ireturn, 1) := by decide +kernel
theorem dX7_addGuest_12 : decode cX7_addGuest 12 = .ok (.aload_n 0, 1) := by decide +kernel
theorem dX7_addGuest_13 : decode cX7_addGuest 13 = .ok (.getfield 39, 3) := by decide +kernel
theorem dX7_addGuest_16 : decode cX7_addGuest 16 = .ok (.istore_n 3, 1) := by decide +kernel
theorem dX7_addGuest_17 : decode cX7_addGuest 17 = .ok (.aload_n 0, 1) := by decide +kernel
theorem dX7_addGuest_18 : decode cX7_addGuest 18 = .ok (.getfield 9, 3) := by decide +kernel
theorem dX7_addGuest_21 : decode cX7_addGuest 21 = .ok (.iload_n 3, 1) := by decide +kernel
theorem dX7_addGuest_22 : decode cX7_addGuest 22 = .ok (.iconst 0, 1) := by decide +kernel
theorem dX7_addGuest_23 : decode cX7_addGuest 23 = .ok (.iastore, 1) := by decide +kernel
theorem dX7_addGuest_24 : decode cX7_addGuest 24 = .ok (.aload_n 0, 1) := by decide +kernel
theorem dX7_addGuest_25 : decode cX7_addGuest 25 = .ok (.getfield 15, 3) := by decide +kernel
theorem dX7_addGuest_28 : decode cX7_addGuest 28 = .ok (.iload_n 3, 1) := by decide +kernel
theorem dX7_addGuest_29 : decode cX7_addGuest 29 = .ok (.iconst 1, 1) := by decide +kernel
theorem dX7_addGuest_30 : decode cX7_addGuest 30 = .ok (.iastore, 1) := by decide +kernel
theorem dX7_addGuest_31 : decode cX7_addGuest 31 = .ok (.aload_n 0, 1) := by decide +kernel
theorem dX7_addGuest_32 : decode cX7_addGuest 32 = .ok (.getfield 18, 3) := by decide +kernel
theorem dX7_addGuest_35 : decode cX7_addGuest 35 = .ok (.iload_n 3, 1) := by decide +kernel
theorem dX7_addGuest_36 : decode cX7_addGuest 36 = .ok (.iconst 0, 1) := by decide +kernel
theorem dX7_addGuest_37 : decode cX7_addGuest 37 = .ok (.iastore, 1) := by decide +kernel
theorem dX7_addGuest_38 : decode cX7_addGuest 38 = .ok (.aload_n 0, 1) := by decide +kernel
theorem dX7_addGuest_39 : decode cX7_addGuest 39 = .ok (.getfield 21, 3) := by decide +kernel
theorem dX7_addGuest_42 : decode cX7_addGuest 42 = .ok (.iload_n 3, 1) := by decide +kernel
theorem dX7_addGuest_43 : decode cX7_addGuest 43 = .ok (.iload_n 1, 1) := by decide +kernel
theorem dX7_addGuest_44 : decode cX7_addGuest 44 = .ok (.iastore, 1) := by decide +kernel
theorem dX7_addGuest_45 : decode cX7_addGuest 45 = .ok (.aload_n 0, 1) := by decide +kernel
theorem dX7_addGuest_46 : decode cX7_addGuest 46 = .ok (.getfield 24, 3) := by decide +kernel
theorem dX7_addGuest_49 : decode cX7_addGuest 49 = .ok (.iload_n 3, 1) := by decide +kernel
theorem dX7_addGuest_50 : decode cX7_addGuest 50 = .ok (.iload_n 2, 1) := by decide +kernel
theorem dX7_addGuest_51 : decode cX7_addGuest 51 = .ok (.iastore, 1) := by decide +kernel
theorem dX7_addGuest_52 : decode cX7_addGuest 52 = .ok (.aload_n 0, 1) := by decide +kernel
theorem dX7_addGuest_53 : decode cX7_addGuest 53 = .ok (.getfield 27, 3) := by decide +kernel
theorem dX7_addGuest_56 : decode cX7_addGuest 56 = .ok (.iload_n 3, 1) := by decide +kernel
theorem dX7_addGuest_57 : decode cX7_addGuest 57 = .ok (.iconst 0, 1) := by decide +kernel
theorem dX7_addGuest_58 : decode cX7_addGuest 58 = .ok (.iastore, 1) := by decide +kernel
theorem dX7_addGuest_59 : decode cX7_addGuest 59 = .ok (.aload_n 0, 1) := by decide +kernel
theorem dX7_addGuest_60 : decode cX7_addGuest 60 = .ok (.dup, 1) := by decide +kernel
theorem dX7_addGuest_61 : decode cX7_addGuest 61 = .ok (.getfield 39, 3) := by decide +kernel
theorem dX7_addGuest_64 : decode cX7_addGuest 64 = .ok (.iconst 1, 1) := by decide +kernel
theorem dX7_addGuest_65 : decode cX7_addGuest 65 = .ok (.iadd, 1) := by decide +kernel
theorem dX7_addGuest_66 : decode cX7_addGuest 66 = .ok (.putfield 39, 3) := by decide +kernel
theorem dX7_addGuest_69 : decode cX7_addGuest 69 = .ok (.iload_n 3, 1) := by decide +kernel
theorem dX7_addGuest_70 : decode cX7_addGuest 70 = .ok (.ireturn, 1) := by decide +kernel
theorem dX7_addSlip_0 : decode cX7_addSlip 0 = .ok (.aload_n 0, 1) := by decide +kernel
theorem dX7_addSlip_1 : decode cX7_addSlip 1 = .ok (.getfield 43, 3) := by decide +kernel
theorem dX7_addSlip_4 : decode cX7_addSlip 4 = .ok (.aload_n 0, 1) := by decide +kernel
theorem dX7_addSlip_5 : decode cX7_addSlip 5 = .ok (.getfield 30, 3) := by decide +kernel
theorem dX7_addSlip_8 : decode cX7_addSlip 8 = .ok (.arraylength, 1) := by decide +kernel
theorem dX7_addSlip_9 : decode cX7_addSlip 9 = .ok (.if_icmp .lt 6, 3) := by decide +kernel
theorem dX7_addSlip_12 : decode cX7_addSlip 12 = .ok (.bipush (-3), 2) := by decide +kernel
theorem dX7_addSlip_14 : decode cX7_addSlip 14 = .ok (.ireturn, 1) := by decide +kernel
theorem dX7_addSlip_15 : decode cX7_addSlip 15 = .ok (.aload_n 0, 1) := by decide +kernel
theorem dX7_addSlip_16 : decode cX7_addSlip 16 = .ok (.getfield 43, 3) := by decide +kernel
theorem dX7_addSlip_19 : decode cX7_addSlip 19 = .ok (.istore 4, 2) := by decide +kernel
theorem dX7_addSlip_21 : decode cX7_addSlip 21 = .ok (.aload_n 0, 1) := by decide +kernel
theorem dX7_addSlip_22 : decode cX7_addSlip 22 = .ok (.getfield 30, 3) := by decide +kernel
theorem dX7_addSlip_25 : decode cX7_addSlip 25 = .ok (.iload 4, 2) := by decide +kernel
theorem dX7_addSlip_27 : decode cX7_addSlip 27 = .ok (.iload_n 1, 1) := by decide +kernel
theorem dX7_addSlip_28 : decode cX7_addSlip 28 = .ok (.iastore, 1) := by decide +kernel
theorem dX7_addSlip_29 : decode cX7_addSlip 29 = .ok (.aload_n 0, 1) := by decide +kernel
theorem dX7_addSlip_30 : decode cX7_addSlip 30 = .ok (.getfield 33, 3) := by decide +kernel
theorem dX7_addSlip_33 : decode cX7_addSlip 33 = .ok (.iload 4, 2) := by decide +kernel
theorem dX7_addSlip_35 : decode cX7_addSlip 35 = .ok (.iload_n 2, 1) := by decide +kernel
theorem dX7_addSlip_36 : decode cX7_addSlip 36 = .ok (.iastore, 1) := by decide +kernel
theorem dX7_addSlip_37 : decode cX7_addSlip 37 = .ok (.aload_n 0, 1) := by decide +kernel
theorem dX7_addSlip_38 : decode cX7_addSlip 38 = .ok (.getfield 36, 3) := by decide +kernel
theorem dX7_addSlip_41 : decode cX7_addSlip 41 = .ok (.iload 4, 2) := by decide +kernel
theorem dX7_addSlip_43 : decode cX7_addSlip 43 = .ok (.iload_n 3, 1) := by decide +kernel
theorem dX7_addSlip_44 : decode cX7_addSlip 44 = .ok (.iastore, 1) := by decide +kernel
theorem dX7_addSlip_45 : decode cX7_addSlip 45 = .ok (.aload_n 0, 1) := by decide +kernel
theorem dX7_addSlip_46 : decode cX7_addSlip 46 = .ok (.dup, 1) := by decide +kernel
theorem dX7_addSlip_47 : decode cX7_addSlip 47 = .ok (.getfield 43, 3) := by decide +kernel
theorem dX7_addSlip_50 : decode cX7_addSlip 50 = .ok (.iconst 1, 1) := by decide +kernel
theorem dX7_addSlip_51 : decode cX7_addSlip 51 = .ok (.iadd, 1) := by decide +kernel
theorem dX7_addSlip_52 : decode cX7_addSlip 52 = .ok (.putfield 43, 3) := by decide +kernel
theorem dX7_addSlip_55 : decode cX7_addSlip 55 = .ok (.iload 4, 2) := by decide +kernel
theorem dX7_addSlip_57 : decode cX7_addSlip 57 = .ok (.ireturn, 1) := by decide +kernel
theorem dX7_hasNumber_0 : decode cX7_hasNumber 0 = .ok (.iload_n 2, 1) := by decide +kernel
theorem dX7_hasNumber_1 : decode cX7_hasNumber 1 = .ok (.ifCond .lt 14, 3) := by decide +kernel
theorem dX7_hasNumber_4 : decode cX7_hasNumber 4 = .ok (.iload_n 2, 1) := by decide +kernel
theorem dX7_hasNumber_5 : decode cX7_hasNumber 5 = .ok (.iconst 5, 1) := by decide +kernel
theorem dX7_hasNumber_6 : decode cX7_hasNumber 6 = .ok (.if_icmp .gt 9, 3) := by decide +kernel
theorem dX7_hasNumber_9 : decode cX7_hasNumber 9 = .ok (.aload_n 0, 1) := by decide +kernel
theorem dX7_hasNumber_10 : decode cX7_hasNumber 10 = .ok (.iload_n 1, 1) := by decide +kernel
theorem dX7_hasNumber_11 : decode cX7_hasNumber 11 = .ok (.invokevirtual 49, 3) := by decide +kernel
theorem dX7_hasNumber_14 : decode cX7_hasNumber 14 = .ok (.ireturn, 1) := by decide +kernel
theorem dX7_hasNumber_15 : decode cX7_hasNumber 15 = .ok (.iload_n 2, 1) := by decide +kernel
theorem dX7_hasNumber_16 : decode cX7_hasNumber 16 = .ok (.bipush 8, 2) := by decide +kernel
theorem dX7_hasNumber_18 : decode cX7_hasNumber 18 = .ok (.if_icmp .ne 13, 3) := by decide +kernel
theorem dX7_hasNumber_21 : decode cX7_hasNumber 21 = .ok (.iload_n 1, 1) := by decide +kernel
theorem dX7_hasNumber_22 : decode cX7_hasNumber 22 = .ok (.ifCond .ne 7, 3) := by decide +kernel
theorem dX7_hasNumber_25 : decode cX7_hasNumber 25 = .ok (.iconst 1, 1) := by decide +kernel
theorem dX7_hasNumber_26 : decode cX7_hasNumber 26 = .ok (.goto 4, 3) := by decide +kernel
theorem dX7_hasNumber_29 : decode cX7_hasNumber 29 = .ok (.iconst 0, 1) := by decide +kernel
theorem dX7_hasNumber_30 : decode cX7_hasNumber 30 = .ok (.ireturn, 1) := by decide +kernel
theorem dX7_hasNumber_31 : decode cX7_hasNumber 31 = .ok (.iload_n 2, 1) := by decide +kernel
theorem dX7_hasNumber_32 : decode cX7_hasNumber 32 = .ok (.bipush 6, 2) := by decide +kernel
theorem dX7_hasNumber_34 : decode cX7_hasNumber 34 = .ok (.if_icmp .eq 15, 3) := by decide +kernel
theorem dX7_hasNumber_37 : decode cX7_hasNumber 37 = .ok (.iload_n 2, 1) := by decide +kernel
theorem dX7_hasNumber_38 : decode cX7_hasNumber 38 = .ok (.bipush 7, 2) := by decide +kernel
theorem dX7_hasNumber_40 : decode cX7_hasNumber 40 = .ok (.if_icmp .eq 9, 3) := by decide +kernel
theorem dX7_hasNumber_43 : decode cX7_hasNumber 43 = .ok (.iload_n 2, 1) := by decide +kernel
theorem dX7_hasNumber_44 : decode cX7_hasNumber 44 = .ok (.bipush 9, 2) := by decide +kernel
theorem dX7_hasNumber_46 : decode cX7_hasNumber 46 = .ok (.if_icmp .ne 19, 3) := by decide +kernel
theorem dX7_hasNumber_49 : decode cX7_hasNumber 49 = .ok (.iload_n 1, 1) := by decide +kernel
theorem dX7_hasNumber_50 : decode cX7_hasNumber 50 = .ok (.ifCond .lt 15, 3) := by decide +kernel
theorem dX7_hasNumber_53 : decode cX7_hasNumber 53 = .ok (.iload_n 1, 1) := by decide +kernel
theorem dX7_hasNumber_54 : decode cX7_hasNumber 54 = .ok (.aload_n 0, 1) := by decide +kernel
theorem dX7_hasNumber_55 : decode cX7_hasNumber 55 = .ok (.getfield 43, 3) := by decide +kernel
theorem dX7_hasNumber_58 : decode cX7_hasNumber 58 = .ok (.if_icmp .ge 7, 3) := by decide +kernel
theorem dX7_hasNumber_61 : decode cX7_hasNumber 61 = .ok (.iconst 1, 1) := by decide +kernel
theorem dX7_hasNumber_62 : decode cX7_hasNumber 62 = .ok (.goto 4, 3) := by decide +kernel
theorem dX7_hasNumber_65 : decode cX7_hasNumber 65 = .ok (.iconst 0, 1) := by decide +kernel
theorem dX7_hasNumber_66 : decode cX7_hasNumber 66 = .ok (.ireturn, 1) := by decide +kernel
theorem dX7_numberOf_0 : decode cX7_numberOf 0 = .ok (.aload_n 0, 1) := by decide +kernel
theorem dX7_numberOf_1 : decode cX7_numberOf 1 = .ok (.iload_n 1, 1) := by decide +kernel
theorem dX7_numberOf_2 : decode cX7_numberOf 2 = .ok (.iload_n 2, 1) := by decide +kernel
theorem dX7_numberOf_3 : decode cX7_numberOf 3 = .ok (.invokevirtual 53, 3) := by decide +kernel
theorem dX7_numberOf_6 : decode cX7_numberOf 6 = .ok (.ifCond .ne 5, 3) := by decide +kernel
theorem dX7_numberOf_9 : decode cX7_numberOf 9 = .ok (.iconst (-1), 1) := by decide +kernel
theorem dX7_numberOf_10 : decode cX7_numberOf 10 = .ok (.ireturn, 1) := by decide +kernel
theorem dX7_numberOf_11 : decode cX7_numberOf 11 = .ok (.iload_n 2, 1) := by decide +kernel
theorem dX7_numberOf_12 : decode cX7_numberOf 12 = .ok (.bipush 8, 2) := by decide +kernel
theorem dX7_numberOf_14 : decode cX7_numberOf 14 = .ok (.if_icmp .ne 10, 3) := by decide +kernel
theorem dX7_numberOf_17 : decode cX7_numberOf 17 = .ok (.aload_n 0, 1) := by decide +kernel
theorem dX7_numberOf_18 : decode cX7_numberOf 18 = .ok (.getfield 46, 3) := by decide +kernel
theorem dX7_numberOf_21 : decode cX7_numberOf 21 = .ok (.goto 10, 3) := by decide +kernel
theorem dX7_numberOf_24 : decode cX7_numberOf 24 = .ok (.aload_n 0, 1) := by decide +kernel
theorem dX7_numberOf_25 : decode cX7_numberOf 25 = .ok (.iload_n 2, 1) := by decide +kernel
theorem dX7_numberOf_26 : decode cX7_numberOf 26 = .ok (.invokevirtual 57, 3) := by decide +kernel
theorem dX7_numberOf_29 : decode cX7_numberOf 29 = .ok (.iload_n 1, 1) := by decide +kernel
theorem dX7_numberOf_30 : decode cX7_numberOf 30 = .ok (.iaload, 1) := by decide +kernel
theorem dX7_numberOf_31 : decode cX7_numberOf 31 = .ok (.ireturn, 1) := by decide +kernel
theorem dX7_setNumber_0 : decode cX7_setNumber 0 = .ok (.aload_n 0, 1) := by decide +kernel
theorem dX7_setNumber_1 : decode cX7_setNumber 1 = .ok (.iload_n 1, 1) := by decide +kernel
theorem dX7_setNumber_2 : decode cX7_setNumber 2 = .ok (.iload_n 2, 1) := by decide +kernel
theorem dX7_setNumber_3 : decode cX7_setNumber 3 = .ok (.invokevirtual 53, 3) := by decide +kernel
theorem dX7_setNumber_6 : decode cX7_setNumber 6 = .ok (.ifCond .ne 4, 3) := by decide +kernel
theorem dX7_setNumber_9 : decode cX7_setNumber 9 = .ok (.return_, 1) := by decide +kernel
theorem dX7_setNumber_10 : decode cX7_setNumber 10 = .ok (.iload_n 2, 1) := by decide +kernel
theorem dX7_setNumber_11 : decode cX7_setNumber 11 = .ok (.bipush 8, 2) := by decide +kernel
theorem dX7_setNumber_13 : decode cX7_setNumber 13 = .ok (.if_icmp .ne 11, 3) := by decide +kernel
theorem dX7_setNumber_16 : decode cX7_setNumber 16 = .ok (.aload_n 0, 1) := by decide +kernel
theorem dX7_setNumber_17 : decode cX7_setNumber 17 = .ok (.iload_n 3, 1) := by decide +kernel
theorem dX7_setNumber_18 : decode cX7_setNumber 18 = .ok (.putfield 46, 3) := by decide +kernel
theorem dX7_setNumber_21 : decode cX7_setNumber 21 = .ok (.goto 11, 3) := by decide +kernel
theorem dX7_setNumber_24 : decode cX7_setNumber 24 = .ok (.aload_n 0, 1) := by decide +kernel
theorem dX7_setNumber_25 : decode cX7_setNumber 25 = .ok (.iload_n 2, 1) := by decide +kernel
theorem dX7_setNumber_26 : decode cX7_setNumber 26 = .ok (.invokevirtual 57, 3) := by decide +kernel
theorem dX7_setNumber_29 : decode cX7_setNumber 29 = .ok (.iload_n 1, 1) := by decide +kernel
theorem dX7_setNumber_30 : decode cX7_setNumber 30 = .ok (.iload_n 3, 1) := by decide +kernel
theorem dX7_setNumber_31 : decode cX7_setNumber 31 = .ok (.iastore, 1) := by decide +kernel
theorem dX7_setNumber_32 : decode cX7_setNumber 32 = .ok (.return_, 1) := by decide +kernel
theorem dX7_numbersOf_0 : decode cX7_numbersOf 0 = .ok (.iload_n 1, 1) := by decide +kernel
theorem dX7_numbersOf_1 : decode cX7_numbersOf 1 = .ok (.tableswitch 87 0 7 #[47, 52, 57, 62, 67, 72, 77, 82], 47) := by decide +kernel
theorem dX7_numbersOf_48 : decode cX7_numbersOf 48 = .ok (.aload_n 0, 1) := by decide +kernel
theorem dX7_numbersOf_49 : decode cX7_numbersOf 49 = .ok (.getfield 9, 3) := by decide +kernel
theorem dX7_numbersOf_52 : decode cX7_numbersOf 52 = .ok (.areturn, 1) := by decide +kernel
theorem dX7_numbersOf_53 : decode cX7_numbersOf 53 = .ok (.aload_n 0, 1) := by decide +kernel
theorem dX7_numbersOf_54 : decode cX7_numbersOf 54 = .ok (.getfield 15, 3) := by decide +kernel
theorem dX7_numbersOf_57 : decode cX7_numbersOf 57 = .ok (.areturn, 1) := by decide +kernel
theorem dX7_numbersOf_58 : decode cX7_numbersOf 58 = .ok (.aload_n 0, 1) := by decide +kernel
theorem dX7_numbersOf_59 : decode cX7_numbersOf 59 = .ok (.getfield 18, 3) := by decide +kernel
theorem dX7_numbersOf_62 : decode cX7_numbersOf 62 = .ok (.areturn, 1) := by decide +kernel
theorem dX7_numbersOf_63 : decode cX7_numbersOf 63 = .ok (.aload_n 0, 1) := by decide +kernel
theorem dX7_numbersOf_64 : decode cX7_numbersOf 64 = .ok (.getfield 21, 3) := by decide +kernel
theorem dX7_numbersOf_67 : decode cX7_numbersOf 67 = .ok (.areturn, 1) := by decide +kernel
theorem dX7_numbersOf_68 : decode cX7_numbersOf 68 = .ok (.aload_n 0, 1) := by decide +kernel
theorem dX7_numbersOf_69 : decode cX7_numbersOf 69 = .ok (.getfield 24, 3) := by decide +kernel
theorem dX7_numbersOf_72 : decode cX7_numbersOf 72 = .ok (.areturn, 1) := by decide +kernel
theorem dX7_numbersOf_73 : decode cX7_numbersOf 73 = .ok (.aload_n 0, 1) := by decide +kernel
theorem dX7_numbersOf_74 : decode cX7_numbersOf 74 = .ok (.getfield 27, 3) := by decide +kernel
theorem dX7_numbersOf_77 : decode cX7_numbersOf 77 = .ok (.areturn, 1) := by decide +kernel
theorem dX7_numbersOf_78 : decode cX7_numbersOf 78 = .ok (.aload_n 0, 1) := by decide +kernel
theorem dX7_numbersOf_79 : decode cX7_numbersOf 79 = .ok (.getfield 33, 3) := by decide +kernel
theorem dX7_numbersOf_82 : decode cX7_numbersOf 82 = .ok (.areturn, 1) := by decide +kernel
theorem dX7_numbersOf_83 : decode cX7_numbersOf 83 = .ok (.aload_n 0, 1) := by decide +kernel
theorem dX7_numbersOf_84 : decode cX7_numbersOf 84 = .ok (.getfield 36, 3) := by decide +kernel
theorem dX7_numbersOf_87 : decode cX7_numbersOf 87 = .ok (.areturn, 1) := by decide +kernel
theorem dX7_numbersOf_88 : decode cX7_numbersOf 88 = .ok (.aload_n 0, 1) := by decide +kernel
theorem dX7_numbersOf_89 : decode cX7_numbersOf 89 = .ok (.getfield 30, 3) := by decide +kernel
theorem dX7_numbersOf_92 : decode cX7_numbersOf 92 = .ok (.areturn, 1) := by decide +kernel
theorem dX7_passMinute_0 : decode cX7_passMinute 0 = .ok (.iconst 0, 1) := by decide +kernel
theorem dX7_passMinute_1 : decode cX7_passMinute 1 = .ok (.istore_n 1, 1) := by decide +kernel
theorem dX7_passMinute_2 : decode cX7_passMinute 2 = .ok (.iload_n 1, 1) := by decide +kernel
theorem dX7_passMinute_3 : decode cX7_passMinute 3 = .ok (.aload_n 0, 1) := by decide +kernel
theorem dX7_passMinute_4 : decode cX7_passMinute 4 = .ok (.getfield 43, 3) := by decide +kernel
theorem dX7_passMinute_7 : decode cX7_passMinute 7 = .ok (.if_icmp .ge 55, 3) := by decide +kernel
theorem dX7_passMinute_10 : decode cX7_passMinute 10 = .ok (.aload_n 0, 1) := by decide +kernel
theorem dX7_passMinute_11 : decode cX7_passMinute 11 = .ok (.getfield 33, 3) := by decide +kernel
theorem dX7_passMinute_14 : decode cX7_passMinute 14 = .ok (.iload_n 1, 1) := by decide +kernel
theorem dX7_passMinute_15 : decode cX7_passMinute 15 = .ok (.iaload, 1) := by decide +kernel
theorem dX7_passMinute_16 : decode cX7_passMinute 16 = .ok (.aload_n 0, 1) := by decide +kernel
theorem dX7_passMinute_17 : decode cX7_passMinute 17 = .ok (.getfield 46, 3) := by decide +kernel
theorem dX7_passMinute_20 : decode cX7_passMinute 20 = .ok (.if_icmp .ne 36, 3) := by decide +kernel
theorem dX7_passMinute_23 : decode cX7_passMinute 23 = .ok (.aload_n 0, 1) := by decide +kernel
theorem dX7_passMinute_24 : decode cX7_passMinute 24 = .ok (.aload_n 0, 1) := by decide +kernel
theorem dX7_passMinute_25 : decode cX7_passMinute 25 = .ok (.getfield 30, 3) := by decide +kernel
theorem dX7_passMinute_28 : decode cX7_passMinute 28 = .ok (.iload_n 1, 1) := by decide +kernel
theorem dX7_passMinute_29 : decode cX7_passMinute 29 = .ok (.iaload, 1) := by decide +kernel
theorem dX7_passMinute_30 : decode cX7_passMinute 30 = .ok (.invokevirtual 61, 3) := by decide +kernel
theorem dX7_passMinute_33 : decode cX7_passMinute 33 = .ok (.ifCond .eq 23, 3) := by decide +kernel
theorem dX7_passMinute_36 : decode cX7_passMinute 36 = .ok (.aload_n 0, 1) := by decide +kernel
theorem dX7_passMinute_37 : decode cX7_passMinute 37 = .ok (.getfield 9, 3) := by decide +kernel
theorem dX7_passMinute_40 : decode cX7_passMinute 40 = .ok (.aload_n 0, 1) := by decide +kernel
theorem dX7_passMinute_41 : decode cX7_passMinute 41 = .ok (.getfield 30, 3) := by decide +kernel
theorem dX7_passMinute_44 : decode cX7_passMinute 44 = .ok (.iload_n 1, 1) := by decide +kernel
theorem dX7_passMinute_45 : decode cX7_passMinute 45 = .ok (.iaload, 1) := by decide +kernel
theorem dX7_passMinute_46 : decode cX7_passMinute 46 = .ok (.dup2, 1) := by decide +kernel
theorem dX7_passMinute_47 : decode cX7_passMinute 47 = .ok (.iaload, 1) := by decide +kernel
theorem dX7_passMinute_48 : decode cX7_passMinute 48 = .ok (.aload_n 0, 1) := by decide +kernel
theorem dX7_passMinute_49 : decode cX7_passMinute 49 = .ok (.getfield 36, 3) := by decide +kernel
theorem dX7_passMinute_52 : decode cX7_passMinute 52 = .ok (.iload_n 1, 1) := by decide +kernel
theorem dX7_passMinute_53 : decode cX7_passMinute 53 = .ok (.iaload, 1) := by decide +kernel
theorem dX7_passMinute_54 : decode cX7_passMinute 54 = .ok (.iadd, 1) := by decide +kernel
theorem dX7_passMinute_55 : decode cX7_passMinute 55 = .ok (.iastore, 1) := by decide +kernel
theorem dX7_passMinute_56 : decode cX7_passMinute 56 = .ok (.iinc 1 1, 3) := by decide +kernel
theorem dX7_passMinute_59 : decode cX7_passMinute 59 = .ok (.goto (-57), 3) := by decide +kernel
theorem dX7_passMinute_62 : decode cX7_passMinute 62 = .ok (.iconst 0, 1) := by decide +kernel
theorem dX7_passMinute_63 : decode cX7_passMinute 63 = .ok (.istore_n 1, 1) := by decide +kernel
theorem dX7_passMinute_64 : decode cX7_passMinute 64 = .ok (.iload_n 1, 1) := by decide +kernel
theorem dX7_passMinute_65 : decode cX7_passMinute 65 = .ok (.aload_n 0, 1) := by decide +kernel
theorem dX7_passMinute_66 : decode cX7_passMinute 66 = .ok (.getfield 39, 3) := by decide +kernel
theorem dX7_passMinute_69 : decode cX7_passMinute 69 = .ok (.if_icmp .ge 46, 3) := by decide +kernel
theorem dX7_passMinute_72 : decode cX7_passMinute 72 = .ok (.aload_n 0, 1) := by decide +kernel
theorem dX7_passMinute_73 : decode cX7_passMinute 73 = .ok (.getfield 27, 3) := by decide +kernel
theorem dX7_passMinute_76 : decode cX7_passMinute 76 = .ok (.iload_n 1, 1) := by decide +kernel
theorem dX7_passMinute_77 : decode cX7_passMinute 77 = .ok (.iaload, 1) := by decide +kernel
theorem dX7_passMinute_78 : decode cX7_passMinute 78 = .ok (.ifCond .ne 31, 3) := by decide +kernel
theorem dX7_passMinute_81 : decode cX7_passMinute 81 = .ok (.aload_n 0, 1) := by decide +kernel
theorem dX7_passMinute_82 : decode cX7_passMinute 82 = .ok (.getfield 9, 3) := by decide +kernel
theorem dX7_passMinute_85 : decode cX7_passMinute 85 = .ok (.iload_n 1, 1) := by decide +kernel
theorem dX7_passMinute_86 : decode cX7_passMinute 86 = .ok (.iconst 0, 1) := by decide +kernel
theorem dX7_passMinute_87 : decode cX7_passMinute 87 = .ok (.bipush 99, 2) := by decide +kernel
theorem dX7_passMinute_89 : decode cX7_passMinute 89 = .ok (.aload_n 0, 1) := by decide +kernel
theorem dX7_passMinute_90 : decode cX7_passMinute 90 = .ok (.getfield 9, 3) := by decide +kernel
theorem dX7_passMinute_93 : decode cX7_passMinute 93 = .ok (.iload_n 1, 1) := by decide +kernel
theorem dX7_passMinute_94 : decode cX7_passMinute 94 = .ok (.iaload, 1) := by decide +kernel
theorem dX7_passMinute_95 : decode cX7_passMinute 95 = .ok (.aload_n 0, 1) := by decide +kernel
theorem dX7_passMinute_96 : decode cX7_passMinute 96 = .ok (.getfield 15, 3) := by decide +kernel
theorem dX7_passMinute_99 : decode cX7_passMinute 99 = .ok (.iload_n 1, 1) := by decide +kernel
theorem dX7_passMinute_100 : decode cX7_passMinute 100 = .ok (.iaload, 1) := by decide +kernel
theorem dX7_passMinute_101 : decode cX7_passMinute 101 = .ok (.isub, 1) := by decide +kernel
theorem dX7_passMinute_102 : decode cX7_passMinute 102 = .ok (.invokestatic 64, 3) := by decide +kernel
theorem dX7_passMinute_105 : decode cX7_passMinute 105 = .ok (.invokestatic 70, 3) := by decide +kernel
theorem dX7_passMinute_108 : decode cX7_passMinute 108 = .ok (.iastore, 1) := by decide +kernel
theorem dX7_passMinute_109 : decode cX7_passMinute 109 = .ok (.iinc 1 1, 3) := by decide +kernel
theorem dX7_passMinute_112 : decode cX7_passMinute 112 = .ok (.goto (-48), 3) := by decide +kernel
theorem dX7_passMinute_115 : decode cX7_passMinute 115 = .ok (.aload_n 0, 1) := by decide +kernel
theorem dX7_passMinute_116 : decode cX7_passMinute 116 = .ok (.sipush 199, 3) := by decide +kernel
theorem dX7_passMinute_119 : decode cX7_passMinute 119 = .ok (.aload_n 0, 1) := by decide +kernel
theorem dX7_passMinute_120 : decode cX7_passMinute 120 = .ok (.getfield 46, 3) := by decide +kernel
theorem dX7_passMinute_123 : decode cX7_passMinute 123 = .ok (.iconst 1, 1) := by decide +kernel
theorem dX7_passMinute_124 : decode cX7_passMinute 124 = .ok (.iadd, 1) := by decide +kernel
theorem dX7_passMinute_125 : decode cX7_passMinute 125 = .ok (.invokestatic 64, 3) := by decide +kernel
theorem dX7_passMinute_128 : decode cX7_passMinute 128 = .ok (.putfield 46, 3) := by decide +kernel
theorem dX7_passMinute_131 : decode cX7_passMinute 131 = .ok (.return_, 1) := by decide +kernel
theorem dX7_becomeLike_0 : decode cX7_becomeLike 0 = .ok (.aload_n 0, 1) := by decide +kernel
theorem dX7_becomeLike_1 : decode cX7_becomeLike 1 = .ok (.aload_n 1, 1) := by decide +kernel
theorem dX7_becomeLike_2 : decode cX7_becomeLike 2 = .ok (.getfield 39, 3) := by decide +kernel
theorem dX7_becomeLike_5 : decode cX7_becomeLike 5 = .ok (.putfield 39, 3) := by decide +kernel
theorem dX7_becomeLike_8 : decode cX7_becomeLike 8 = .ok (.aload_n 0, 1) := by decide +kernel
theorem dX7_becomeLike_9 : decode cX7_becomeLike 9 = .ok (.aload_n 1, 1) := by decide +kernel
theorem dX7_becomeLike_10 : decode cX7_becomeLike 10 = .ok (.getfield 43, 3) := by decide +kernel
theorem dX7_becomeLike_13 : decode cX7_becomeLike 13 = .ok (.putfield 43, 3) := by decide +kernel
theorem dX7_becomeLike_16 : decode cX7_becomeLike 16 = .ok (.aload_n 0, 1) := by decide +kernel
theorem dX7_becomeLike_17 : decode cX7_becomeLike 17 = .ok (.aload_n 1, 1) := by decide +kernel
theorem dX7_becomeLike_18 : decode cX7_becomeLike 18 = .ok (.getfield 46, 3) := by decide +kernel
theorem dX7_becomeLike_21 : decode cX7_becomeLike 21 = .ok (.putfield 46, 3) := by decide +kernel
theorem dX7_becomeLike_24 : decode cX7_becomeLike 24 = .ok (.aload_n 1, 1) := by decide +kernel
theorem dX7_becomeLike_25 : decode cX7_becomeLike 25 = .ok (.getfield 9, 3) := by decide +kernel
theorem dX7_becomeLike_28 : decode cX7_becomeLike 28 = .ok (.iconst 0, 1) := by decide +kernel
theorem dX7_becomeLike_29 : decode cX7_becomeLike 29 = .ok (.aload_n 0, 1) := by decide +kernel
theorem dX7_becomeLike_30 : decode cX7_becomeLike 30 = .ok (.getfield 9, 3) := by decide +kernel
theorem dX7_becomeLike_33 : decode cX7_becomeLike 33 = .ok (.iconst 0, 1) := by decide +kernel
theorem dX7_becomeLike_34 : decode cX7_becomeLike 34 = .ok (.bipush 9, 2) := by decide +kernel
theorem dX7_becomeLike_36 : decode cX7_becomeLike 36 = .ok (.invokestatic 73, 3) := by decide +kernel
theorem dX7_becomeLike_39 : decode cX7_becomeLike 39 = .ok (.aload_n 1, 1) := by decide +kernel
theorem dX7_becomeLike_40 : decode cX7_becomeLike 40 = .ok (.getfield 15, 3) := by decide +kernel
theorem dX7_becomeLike_43 : decode cX7_becomeLike 43 = .ok (.iconst 0, 1) := by decide +kernel
theorem dX7_becomeLike_44 : decode cX7_becomeLike 44 = .ok (.aload_n 0, 1) := by decide +kernel
theorem dX7_becomeLike_45 : decode cX7_becomeLike 45 = .ok (.getfield 15, 3) := by decide +kernel
theorem dX7_becomeLike_48 : decode cX7_becomeLike 48 = .ok (.iconst 0, 1) := by decide +kernel
theorem dX7_becomeLike_49 : decode cX7_becomeLike 49 = .ok (.bipush 9, 2) := by decide +kernel
theorem dX7_becomeLike_51 : decode cX7_becomeLike 51 = .ok (.invokestatic 73, 3) := by decide +kernel
theorem dX7_becomeLike_54 : decode cX7_becomeLike 54 = .ok (.aload_n 1, 1) := by decide +kernel
theorem dX7_becomeLike_55 : decode cX7_becomeLike 55 = .ok (.getfield 18, 3) := by decide +kernel
theorem dX7_becomeLike_58 : decode cX7_becomeLike 58 = .ok (.iconst 0, 1) := by decide +kernel
theorem dX7_becomeLike_59 : decode cX7_becomeLike 59 = .ok (.aload_n 0, 1) := by decide +kernel
theorem dX7_becomeLike_60 : decode cX7_becomeLike 60 = .ok (.getfield 18, 3) := by decide +kernel
theorem dX7_becomeLike_63 : decode cX7_becomeLike 63 = .ok (.iconst 0, 1) := by decide +kernel
theorem dX7_becomeLike_64 : decode cX7_becomeLike 64 = .ok (.bipush 9, 2) := by decide +kernel
theorem dX7_becomeLike_66 : decode cX7_becomeLike 66 = .ok (.invokestatic 73, 3) := by decide +kernel
theorem dX7_becomeLike_69 : decode cX7_becomeLike 69 = .ok (.aload_n 1, 1) := by decide +kernel
theorem dX7_becomeLike_70 : decode cX7_becomeLike 70 = .ok (.getfield 21, 3) := by decide +kernel
theorem dX7_becomeLike_73 : decode cX7_becomeLike 73 = .ok (.iconst 0, 1) := by decide +kernel
theorem dX7_becomeLike_74 : decode cX7_becomeLike 74 = .ok (.aload_n 0, 1) := by decide +kernel
theorem dX7_becomeLike_75 : decode cX7_becomeLike 75 = .ok (.getfield 21, 3) := by decide +kernel
theorem dX7_becomeLike_78 : decode cX7_becomeLike 78 = .ok (.iconst 0, 1) := by decide +kernel
theorem dX7_becomeLike_79 : decode cX7_becomeLike 79 = .ok (.bipush 9, 2) := by decide +kernel
theorem dX7_becomeLike_81 : decode cX7_becomeLike 81 = .ok (.invokestatic 73, 3) := by decide +kernel
theorem dX7_becomeLike_84 : decode cX7_becomeLike 84 = .ok (.aload_n 1, 1) := by decide +kernel
theorem dX7_becomeLike_85 : decode cX7_becomeLike 85 = .ok (.getfield 27, 3) := by decide +kernel
theorem dX7_becomeLike_88 : decode cX7_becomeLike 88 = .ok (.iconst 0, 1) := by decide +kernel
theorem dX7_becomeLike_89 : decode cX7_becomeLike 89 = .ok (.aload_n 0, 1) := by decide +kernel
theorem dX7_becomeLike_90 : decode cX7_becomeLike 90 = .ok (.getfield 27, 3) := by decide +kernel
theorem dX7_becomeLike_93 : decode cX7_becomeLike 93 = .ok (.iconst 0, 1) := by decide +kernel
theorem dX7_becomeLike_94 : decode cX7_becomeLike 94 = .ok (.bipush 9, 2) := by decide +kernel
theorem dX7_becomeLike_96 : decode cX7_becomeLike 96 = .ok (.invokestatic 73, 3) := by decide +kernel
theorem dX7_becomeLike_99 : decode cX7_becomeLike 99 = .ok (.aload_n 1, 1) := by decide +kernel
theorem dX7_becomeLike_100 : decode cX7_becomeLike 100 = .ok (.getfield 30, 3) := by decide +kernel
theorem dX7_becomeLike_103 : decode cX7_becomeLike 103 = .ok (.iconst 0, 1) := by decide +kernel
theorem dX7_becomeLike_104 : decode cX7_becomeLike 104 = .ok (.aload_n 0, 1) := by decide +kernel
theorem dX7_becomeLike_105 : decode cX7_becomeLike 105 = .ok (.getfield 30, 3) := by decide +kernel
theorem dX7_becomeLike_108 : decode cX7_becomeLike 108 = .ok (.iconst 0, 1) := by decide +kernel
theorem dX7_becomeLike_109 : decode cX7_becomeLike 109 = .ok (.bipush 12, 2) := by decide +kernel
theorem dX7_becomeLike_111 : decode cX7_becomeLike 111 = .ok (.invokestatic 73, 3) := by decide +kernel
theorem dX7_becomeLike_114 : decode cX7_becomeLike 114 = .ok (.aload_n 1, 1) := by decide +kernel
theorem dX7_becomeLike_115 : decode cX7_becomeLike 115 = .ok (.getfield 33, 3) := by decide +kernel
theorem dX7_becomeLike_118 : decode cX7_becomeLike 118 = .ok (.iconst 0, 1) := by decide +kernel
theorem dX7_becomeLike_119 : decode cX7_becomeLike 119 = .ok (.aload_n 0, 1) := by decide +kernel
theorem dX7_becomeLike_120 : decode cX7_becomeLike 120 = .ok (.getfield 33, 3) := by decide +kernel
theorem dX7_becomeLike_123 : decode cX7_becomeLike 123 = .ok (.iconst 0, 1) := by decide +kernel
theorem dX7_becomeLike_124 : decode cX7_becomeLike 124 = .ok (.bipush 12, 2) := by decide +kernel
theorem dX7_becomeLike_126 : decode cX7_becomeLike 126 = .ok (.invokestatic 73, 3) := by decide +kernel
theorem dX7_becomeLike_129 : decode cX7_becomeLike 129 = .ok (.aload_n 1, 1) := by decide +kernel
theorem dX7_becomeLike_130 : decode cX7_becomeLike 130 = .ok (.getfield 36, 3) := by decide +kernel
theorem dX7_becomeLike_133 : decode cX7_becomeLike 133 = .ok (.iconst 0, 1) := by decide +kernel
theorem dX7_becomeLike_134 : decode cX7_becomeLike 134 = .ok (.aload_n 0, 1) := by decide +kernel
theorem dX7_becomeLike_135 : decode cX7_becomeLike 135 = .ok (.getfield 36, 3) := by decide +kernel
theorem dX7_becomeLike_138 : decode cX7_becomeLike 138 = .ok (.iconst 0, 1) := by decide +kernel
theorem dX7_becomeLike_139 : decode cX7_becomeLike 139 = .ok (.bipush 12, 2) := by decide +kernel
theorem dX7_becomeLike_141 : decode cX7_becomeLike 141 = .ok (.invokestatic 73, 3) := by decide +kernel
theorem dX7_becomeLike_144 : decode cX7_becomeLike 144 = .ok (.return_, 1) := by decide +kernel
theorem dX8_init_0 : decode cX8_init 0 = .ok (.aload_n 0, 1) := by decide +kernel
theorem dX8_init_1 : decode cX8_init 1 = .ok (.invokespecial 3, 3) := by decide +kernel
theorem dX8_init_4 : decode cX8_init 4 = .ok (.aload_n 0, 1) := by decide +kernel
theorem dX8_init_5 : decode cX8_init 5 = .ok (.iconst 0, 1) := by decide +kernel
theorem dX8_init_6 : decode cX8_init 6 = .ok (.putfield 9, 3) := by decide +kernel
theorem dX8_init_9 : decode cX8_init 9 = .ok (.aload_n 0, 1) := by decide +kernel
theorem dX8_init_10 : decode cX8_init 10 = .ok (.iconst 0, 1) := by decide +kernel
theorem dX8_init_11 : decode cX8_init 11 = .ok (.putfield 15, 3) := by decide +kernel
theorem dX8_init_14 : decode cX8_init 14 = .ok (.aload_n 0, 1) := by decide +kernel
theorem dX8_init_15 : decode cX8_init 15 = .ok (.bipush 100, 2) := by decide +kernel
theorem dX8_init_17 : decode cX8_init 17 = .ok (.newarray .int, 2) := by decide +kernel
theorem dX8_init_19 : decode cX8_init 19 = .ok (.putfield 18, 3) := by decide +kernel
theorem dX8_init_22 : decode cX8_init 22 = .ok (.aload_n 0, 1) := by decide +kernel
theorem dX8_init_23 : decode cX8_init 23 = .ok (.aload_n 1, 1) := by decide +kernel
theorem dX8_init_24 : decode cX8_init 24 = .ok (.putfield 22, 3) := by decide +kernel
theorem dX8_init_27 : decode cX8_init 27 = .ok (.return_, 1) := by decide +kernel
theorem dX8_begin_0 : decode cX8_begin 0 = .ok (.aload_n 0, 1) := by decide +kernel
theorem dX8_begin_1 : decode cX8_begin 1 = .ok (.iload_n 1, 1) := by decide +kernel
theorem dX8_begin_2 : decode cX8_begin 2 = .ok (.putfield 9, 3) := by decide +kernel
theorem dX8_begin_5 : decode cX8_begin 5 = .ok (.aload_n 0, 1) := by decide +kernel
theorem dX8_begin_6 : decode cX8_begin 6 = .ok (.iload_n 2, 1) := by decide +kernel
theorem dX8_begin_7 : decode cX8_begin 7 = .ok (.putfield 15, 3) := by decide +kernel
theorem dX8_begin_10 : decode cX8_begin 10 = .ok (.iconst 0, 1) := by decide +kernel
theorem dX8_begin_11 : decode cX8_begin 11 = .ok (.istore_n 3, 1) := by decide +kernel
theorem dX8_begin_12 : decode cX8_begin 12 = .ok (.iload_n 3, 1) := by decide +kernel
theorem dX8_begin_13 : decode cX8_begin 13 = .ok (.aload_n 0, 1) := by decide +kernel
theorem dX8_begin_14 : decode cX8_begin 14 = .ok (.getfield 18, 3) := by decide +kernel
theorem dX8_begin_17 : decode cX8_begin 17 = .ok (.arraylength, 1) := by decide +kernel
theorem dX8_begin_18 : decode cX8_begin 18 = .ok (.if_icmp .ge 17, 3) := by decide +kernel
theorem dX8_begin_21 : decode cX8_begin 21 = .ok (.aload_n 0, 1) := by decide +kernel
theorem dX8_begin_22 : decode cX8_begin 22 = .ok (.getfield 18, 3) := by decide +kernel
theorem dX8_begin_25 : decode cX8_begin 25 = .ok (.iload_n 3, 1) := by decide +kernel
theorem dX8_begin_26 : decode cX8_begin 26 = .ok (.ldc 26, 2) := by decide +kernel
theorem dX8_begin_28 : decode cX8_begin 28 = .ok (.iastore, 1) := by decide +kernel
theorem dX8_begin_29 : decode cX8_begin 29 = .ok (.iinc 3 1, 3) := by decide +kernel
theorem dX8_begin_32 : decode cX8_begin 32 = .ok (.goto (-20), 3) := by decide +kernel
theorem dX8_begin_35 : decode cX8_begin 35 = .ok (.return_, 1) := by decide +kernel
theorem dX8_best_0 : decode cX8_best 0 = .ok (.iload_n 3, 1) := by decide +kernel
theorem dX8_best_1 : decode cX8_best 1 = .ok (.ifCond .gt 10, 3) := by decide +kernel
theorem dX8_best_4 : decode cX8_best 4 = .ok (.aload_n 0, 1) := by decide +kernel
theorem dX8_best_5 : decode cX8_best 5 = .ok (.iload_n 1, 1) := by decide +kernel
theorem dX8_best_6 : decode cX8_best 6 = .ok (.iload_n 2, 1) := by decide +kernel
theorem dX8_best_7 : decode cX8_best 7 = .ok (.invokevirtual 27, 3) := by decide +kernel
theorem dX8_best_10 : decode cX8_best 10 = .ok (.ireturn, 1) := by decide +kernel
theorem dX8_best_11 : decode cX8_best 11 = .ok (.iload 4, 2) := by decide +kernel
theorem dX8_best_13 : decode cX8_best 13 = .ok (.ifCond .eq 8, 3) := by decide +kernel
theorem dX8_best_16 : decode cX8_best 16 = .ok (.bipush (-9), 2) := by decide +kernel
theorem dX8_best_18 : decode cX8_best 18 = .ok (.goto 5, 3) := by decide +kernel
theorem dX8_best_21 : decode cX8_best 21 = .ok (.bipush 9, 2) := by decide +kernel
theorem dX8_best_23 : decode cX8_best 23 = .ok (.istore 5, 2) := by decide +kernel
theorem dX8_best_25 : decode cX8_best 25 = .ok (.iconst 0, 1) := by decide +kernel
theorem dX8_best_26 : decode cX8_best 26 = .ok (.istore 6, 2) := by decide +kernel
theorem dX8_best_28 : decode cX8_best 28 = .ok (.iload 6, 2) := by decide +kernel
theorem dX8_best_30 : decode cX8_best 30 = .ok (.iconst 2, 1) := by decide +kernel
theorem dX8_best_31 : decode cX8_best 31 = .ok (.if_icmp .gt 61, 3) := by decide +kernel
theorem dX8_best_34 : decode cX8_best 34 = .ok (.iload 4, 2) := by decide +kernel
theorem dX8_best_36 : decode cX8_best 36 = .ok (.ifCond .eq 28, 3) := by decide +kernel
theorem dX8_best_39 : decode cX8_best 39 = .ok (.iload 5, 2) := by decide +kernel
theorem dX8_best_41 : decode cX8_best 41 = .ok (.aload_n 0, 1) := by decide +kernel
theorem dX8_best_42 : decode cX8_best 42 = .ok (.iload_n 1, 1) := by decide +kernel
theorem dX8_best_43 : decode cX8_best 43 = .ok (.iload 6, 2) := by decide +kernel
theorem dX8_best_45 : decode cX8_best 45 = .ok (.invokestatic 31, 3) := by decide +kernel
theorem dX8_best_48 : decode cX8_best 48 = .ok (.iload_n 2, 1) := by decide +kernel
theorem dX8_best_49 : decode cX8_best 49 = .ok (.iload_n 3, 1) := by decide +kernel
theorem dX8_best_50 : decode cX8_best 50 = .ok (.iconst 1, 1) := by decide +kernel
theorem dX8_best_51 : decode cX8_best 51 = .ok (.isub, 1) := by decide +kernel
theorem dX8_best_52 : decode cX8_best 52 = .ok (.iconst 0, 1) := by decide +kernel
theorem dX8_best_53 : decode cX8_best 53 = .ok (.invokevirtual 34, 3) := by decide +kernel
theorem dX8_best_56 : decode cX8_best 56 = .ok (.invokestatic 38, 3) := by decide +kernel
theorem dX8_best_59 : decode cX8_best 59 = .ok (.istore 5, 2) := by decide +kernel
theorem dX8_best_61 : decode cX8_best 61 = .ok (.goto 25, 3) := by decide +kernel
theorem dX8_best_64 : decode cX8_best 64 = .ok (.iload 5, 2) := by decide +kernel
theorem dX8_best_66 : decode cX8_best 66 = .ok (.aload_n 0, 1) := by decide +kernel
theorem dX8_best_67 : decode cX8_best 67 = .ok (.iload_n 1, 1) := by decide +kernel
theorem dX8_best_68 : decode cX8_best 68 = .ok (.iload_n 2, 1) := by decide +kernel
theorem dX8_best_69 : decode cX8_best 69 = .ok (.iload 6, 2) := by decide +kernel
theorem dX8_best_71 : decode cX8_best 71 = .ok (.invokestatic 31, 3) := by decide +kernel
theorem dX8_best_74 : decode cX8_best 74 = .ok (.iload_n 3, 1) := by decide +kernel
theorem dX8_best_75 : decode cX8_best 75 = .ok (.iconst 1, 1) := by decide +kernel
theorem dX8_best_76 : decode cX8_best 76 = .ok (.isub, 1) := by decide +kernel
theorem dX8_best_77 : decode cX8_best 77 = .ok (.iconst 1, 1) := by decide +kernel
theorem dX8_best_78 : decode cX8_best 78 = .ok (.invokevirtual 34, 3) := by decide +kernel
theorem dX8_best_81 : decode cX8_best 81 = .ok (.invokestatic 43, 3) := by decide +kernel
theorem dX8_best_84 : decode cX8_best 84 = .ok (.istore 5, 2) := by decide +kernel
theorem dX8_best_86 : decode cX8_best 86 = .ok (.iinc 6 1, 3) := by decide +kernel
theorem dX8_best_89 : decode cX8_best 89 = .ok (.goto (-61), 3) := by decide +kernel
theorem dX8_best_92 : decode cX8_best 92 = .ok (.iload 5, 2) := by decide +kernel
theorem dX8_best_94 : decode cX8_best 94 = .ok (.ireturn, 1) := by decide +kernel
theorem dX8_afterTurn_0 : decode cX8_afterTurn 0 = .ok (.iload_n 1, 1) := by decide +kernel
theorem dX8_afterTurn_1 : decode cX8_afterTurn 1 = .ok (.iconst 2, 1) := by decide +kernel
