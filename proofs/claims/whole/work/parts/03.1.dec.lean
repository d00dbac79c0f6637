theorem dX8_afterTurn_2 : decode cX8_afterTurn 2 = .ok (.if_icmp .ne 5, 3) := by decide +kernel
theorem dX8_afterTurn_5 : decode cX8_afterTurn 5 = .ok (.iload_n 0, 1) := by decide +kernel
theorem dX8_afterTurn_6 : decode cX8_afterTurn 6 = .ok (.ireturn, 1) := by decide +kernel
theorem dX8_afterTurn_7 : decode cX8_afterTurn 7 = .ok (.iload_n 1, 1) := by decide +kernel
theorem dX8_afterTurn_8 : decode cX8_afterTurn 8 = .ok (.ifCond .ne 14, 3) := by decide +kernel
theorem dX8_afterTurn_11 : decode cX8_afterTurn 11 = .ok (.bipush 9, 2) := by decide +kernel
theorem dX8_afterTurn_13 : decode cX8_afterTurn 13 = .ok (.iload_n 0, 1) := by decide +kernel
theorem dX8_afterTurn_14 : decode cX8_afterTurn 14 = .ok (.iconst 2, 1) := by decide +kernel
theorem dX8_afterTurn_15 : decode cX8_afterTurn 15 = .ok (.iadd, 1) := by decide +kernel
theorem dX8_afterTurn_16 : decode cX8_afterTurn 16 = .ok (.invokestatic 43, 3) := by decide +kernel
theorem dX8_afterTurn_19 : decode cX8_afterTurn 19 = .ok (.goto 10, 3) := by decide +kernel
theorem dX8_afterTurn_22 : decode cX8_afterTurn 22 = .ok (.iconst 0, 1) := by decide +kernel
theorem dX8_afterTurn_23 : decode cX8_afterTurn 23 = .ok (.iload_n 0, 1) := by decide +kernel
theorem dX8_afterTurn_24 : decode cX8_afterTurn 24 = .ok (.iconst 2, 1) := by decide +kernel
theorem dX8_afterTurn_25 : decode cX8_afterTurn 25 = .ok (.isub, 1) := by decide +kernel
theorem dX8_afterTurn_26 : decode cX8_afterTurn 26 = .ok (.invokestatic 38, 3) := by decide +kernel
theorem dX8_afterTurn_29 : decode cX8_afterTurn 29 = .ok (.ireturn, 1) := by decide +kernel
theorem dX8_endOf_0 : decode cX8_endOf 0 = .ok (.iload_n 1, 1) := by decide +kernel
theorem dX8_endOf_1 : decode cX8_endOf 1 = .ok (.bipush 10, 2) := by decide +kernel
theorem dX8_endOf_3 : decode cX8_endOf 3 = .ok (.imul, 1) := by decide +kernel
theorem dX8_endOf_4 : decode cX8_endOf 4 = .ok (.iload_n 2, 1) := by decide +kernel
theorem dX8_endOf_5 : decode cX8_endOf 5 = .ok (.iadd, 1) := by decide +kernel
theorem dX8_endOf_6 : decode cX8_endOf 6 = .ok (.istore_n 3, 1) := by decide +kernel
theorem dX8_endOf_7 : decode cX8_endOf 7 = .ok (.iload_n 3, 1) := by decide +kernel
theorem dX8_endOf_8 : decode cX8_endOf 8 = .ok (.ifCond .lt 12, 3) := by decide +kernel
theorem dX8_endOf_11 : decode cX8_endOf 11 = .ok (.iload_n 3, 1) := by decide +kernel
theorem dX8_endOf_12 : decode cX8_endOf 12 = .ok (.aload_n 0, 1) := by decide +kernel
theorem dX8_endOf_13 : decode cX8_endOf 13 = .ok (.getfield 18, 3) := by decide +kernel
theorem dX8_endOf_16 : decode cX8_endOf 16 = .ok (.arraylength, 1) := by decide +kernel
theorem dX8_endOf_17 : decode cX8_endOf 17 = .ok (.if_icmp .lt 5, 3) := by decide +kernel
theorem dX8_endOf_20 : decode cX8_endOf 20 = .ok (.iconst 0, 1) := by decide +kernel
theorem dX8_endOf_21 : decode cX8_endOf 21 = .ok (.ireturn, 1) := by decide +kernel
theorem dX8_endOf_22 : decode cX8_endOf 22 = .ok (.aload_n 0, 1) := by decide +kernel
theorem dX8_endOf_23 : decode cX8_endOf 23 = .ok (.getfield 18, 3) := by decide +kernel
theorem dX8_endOf_26 : decode cX8_endOf 26 = .ok (.iload_n 3, 1) := by decide +kernel
theorem dX8_endOf_27 : decode cX8_endOf 27 = .ok (.iaload, 1) := by decide +kernel
theorem dX8_endOf_28 : decode cX8_endOf 28 = .ok (.ldc 26, 2) := by decide +kernel
theorem dX8_endOf_30 : decode cX8_endOf 30 = .ok (.if_icmp .ne 81, 3) := by decide +kernel
theorem dX8_endOf_33 : decode cX8_endOf 33 = .ok (.aload_n 0, 1) := by decide +kernel
theorem dX8_endOf_34 : decode cX8_endOf 34 = .ok (.getfield 22, 3) := by decide +kernel
theorem dX8_endOf_37 : decode cX8_endOf 37 = .ok (.iconst 0, 1) := by decide +kernel
theorem dX8_endOf_38 : decode cX8_endOf 38 = .ok (.invokevirtual 46, 3) := by decide +kernel
theorem dX8_endOf_41 : decode cX8_endOf 41 = .ok (.aload_n 0, 1) := by decide +kernel
theorem dX8_endOf_42 : decode cX8_endOf 42 = .ok (.getfield 22, 3) := by decide +kernel
theorem dX8_endOf_45 : decode cX8_endOf 45 = .ok (.getfield 52, 3) := by decide +kernel
theorem dX8_endOf_48 : decode cX8_endOf 48 = .ok (.getfield 56, 3) := by decide +kernel
theorem dX8_endOf_51 : decode cX8_endOf 51 = .ok (.aload_n 0, 1) := by decide +kernel
theorem dX8_endOf_52 : decode cX8_endOf 52 = .ok (.getfield 9, 3) := by decide +kernel
theorem dX8_endOf_55 : decode cX8_endOf 55 = .ok (.iload_n 1, 1) := by decide +kernel
theorem dX8_endOf_56 : decode cX8_endOf 56 = .ok (.iastore, 1) := by decide +kernel
theorem dX8_endOf_57 : decode cX8_endOf 57 = .ok (.aload_n 0, 1) := by decide +kernel
theorem dX8_endOf_58 : decode cX8_endOf 58 = .ok (.getfield 22, 3) := by decide +kernel
theorem dX8_endOf_61 : decode cX8_endOf 61 = .ok (.getfield 52, 3) := by decide +kernel
theorem dX8_endOf_64 : decode cX8_endOf 64 = .ok (.getfield 56, 3) := by decide +kernel
theorem dX8_endOf_67 : decode cX8_endOf 67 = .ok (.aload_n 0, 1) := by decide +kernel
theorem dX8_endOf_68 : decode cX8_endOf 68 = .ok (.getfield 15, 3) := by decide +kernel
theorem dX8_endOf_71 : decode cX8_endOf 71 = .ok (.iload_n 2, 1) := by decide +kernel
theorem dX8_endOf_72 : decode cX8_endOf 72 = .ok (.iastore, 1) := by decide +kernel
theorem dX8_endOf_73 : decode cX8_endOf 73 = .ok (.aload_n 0, 1) := by decide +kernel
theorem dX8_endOf_74 : decode cX8_endOf 74 = .ok (.getfield 22, 3) := by decide +kernel
theorem dX8_endOf_77 : decode cX8_endOf 77 = .ok (.bipush 9, 2) := by decide +kernel
theorem dX8_endOf_79 : decode cX8_endOf 79 = .ok (.invokevirtual 61, 3) := by decide +kernel
theorem dX8_endOf_82 : decode cX8_endOf 82 = .ok (.aload_n 0, 1) := by decide +kernel
theorem dX8_endOf_83 : decode cX8_endOf 83 = .ok (.getfield 18, 3) := by decide +kernel
theorem dX8_endOf_86 : decode cX8_endOf 86 = .ok (.iload_n 3, 1) := by decide +kernel
theorem dX8_endOf_87 : decode cX8_endOf 87 = .ok (.aload_n 0, 1) := by decide +kernel
theorem dX8_endOf_88 : decode cX8_endOf 88 = .ok (.getfield 22, 3) := by decide +kernel
theorem dX8_endOf_91 : decode cX8_endOf 91 = .ok (.aload_n 0, 1) := by decide +kernel
theorem dX8_endOf_92 : decode cX8_endOf 92 = .ok (.getfield 15, 3) := by decide +kernel
theorem dX8_endOf_95 : decode cX8_endOf 95 = .ok (.invokevirtual 64, 3) := by decide +kernel
theorem dX8_endOf_98 : decode cX8_endOf 98 = .ok (.aload_n 0, 1) := by decide +kernel
theorem dX8_endOf_99 : decode cX8_endOf 99 = .ok (.getfield 22, 3) := by decide +kernel
theorem dX8_endOf_102 : decode cX8_endOf 102 = .ok (.aload_n 0, 1) := by decide +kernel
theorem dX8_endOf_103 : decode cX8_endOf 103 = .ok (.getfield 9, 3) := by decide +kernel
theorem dX8_endOf_106 : decode cX8_endOf 106 = .ok (.invokevirtual 64, 3) := by decide +kernel
theorem dX8_endOf_109 : decode cX8_endOf 109 = .ok (.isub, 1) := by decide +kernel
theorem dX8_endOf_110 : decode cX8_endOf 110 = .ok (.iastore, 1) := by decide +kernel
theorem dX8_endOf_111 : decode cX8_endOf 111 = .ok (.aload_n 0, 1) := by decide +kernel
theorem dX8_endOf_112 : decode cX8_endOf 112 = .ok (.getfield 18, 3) := by decide +kernel
theorem dX8_endOf_115 : decode cX8_endOf 115 = .ok (.iload_n 3, 1) := by decide +kernel
theorem dX8_endOf_116 : decode cX8_endOf 116 = .ok (.iaload, 1) := by decide +kernel
theorem dX8_endOf_117 : decode cX8_endOf 117 = .ok (.ireturn, 1) := by decide +kernel
theorem dX9_init_0 : decode cX9_init 0 = .ok (.aload_n 0, 1) := by decide +kernel
theorem dX9_init_1 : decode cX9_init 1 = .ok (.invokespecial 1, 3) := by decide +kernel
theorem dX9_init_4 : decode cX9_init 4 = .ok (.aload_n 0, 1) := by decide +kernel
theorem dX9_init_5 : decode cX9_init 5 = .ok (.new 7, 3) := by decide +kernel
theorem dX9_init_8 : decode cX9_init 8 = .ok (.dup, 1) := by decide +kernel
theorem dX9_init_9 : decode cX9_init 9 = .ok (.invokespecial 9, 3) := by decide +kernel
theorem dX9_init_12 : decode cX9_init 12 = .ok (.putfield 10, 3) := by decide +kernel
theorem dX9_init_15 : decode cX9_init 15 = .ok (.aload_n 0, 1) := by decide +kernel
theorem dX9_init_16 : decode cX9_init 16 = .ok (.bipush 120, 2) := by decide +kernel
theorem dX9_init_18 : decode cX9_init 18 = .ok (.newarray .int, 2) := by decide +kernel
theorem dX9_init_20 : decode cX9_init 20 = .ok (.putfield 16, 3) := by decide +kernel
theorem dX9_init_23 : decode cX9_init 23 = .ok (.aload_n 0, 1) := by decide +kernel
theorem dX9_init_24 : decode cX9_init 24 = .ok (.iconst 0, 1) := by decide +kernel
theorem dX9_init_25 : decode cX9_init 25 = .ok (.putfield 20, 3) := by decide +kernel
theorem dX9_init_28 : decode cX9_init 28 = .ok (.aload_n 0, 1) := by decide +kernel
theorem dX9_init_29 : decode cX9_init 29 = .ok (.new 24, 3) := by decide +kernel
theorem dX9_init_32 : decode cX9_init 32 = .ok (.dup, 1) := by decide +kernel
theorem dX9_init_33 : decode cX9_init 33 = .ok (.invokespecial 26, 3) := by decide +kernel
theorem dX9_init_36 : decode cX9_init 36 = .ok (.putfield 27, 3) := by decide +kernel
theorem dX9_init_39 : decode cX9_init 39 = .ok (.aload_n 0, 1) := by decide +kernel
theorem dX9_init_40 : decode cX9_init 40 = .ok (.new 31, 3) := by decide +kernel
theorem dX9_init_43 : decode cX9_init 43 = .ok (.dup, 1) := by decide +kernel
theorem dX9_init_44 : decode cX9_init 44 = .ok (.invokespecial 33, 3) := by decide +kernel
theorem dX9_init_47 : decode cX9_init 47 = .ok (.putfield 34, 3) := by decide +kernel
theorem dX9_init_50 : decode cX9_init 50 = .ok (.aload_n 0, 1) := by decide +kernel
theorem dX9_init_51 : decode cX9_init 51 = .ok (.new 38, 3) := by decide +kernel
theorem dX9_init_54 : decode cX9_init 54 = .ok (.dup, 1) := by decide +kernel
theorem dX9_init_55 : decode cX9_init 55 = .ok (.aload_n 0, 1) := by decide +kernel
theorem dX9_init_56 : decode cX9_init 56 = .ok (.getfield 10, 3) := by decide +kernel
theorem dX9_init_59 : decode cX9_init 59 = .ok (.aload_n 0, 1) := by decide +kernel
theorem dX9_init_60 : decode cX9_init 60 = .ok (.getfield 34, 3) := by decide +kernel
theorem dX9_init_63 : decode cX9_init 63 = .ok (.invokespecial 40, 3) := by decide +kernel
theorem dX9_init_66 : decode cX9_init 66 = .ok (.putfield 43, 3) := by decide +kernel
theorem dX9_init_69 : decode cX9_init 69 = .ok (.aload_n 0, 1) := by decide +kernel
theorem dX9_init_70 : decode cX9_init 70 = .ok (.new 47, 3) := by decide +kernel
theorem dX9_init_73 : decode cX9_init 73 = .ok (.dup, 1) := by decide +kernel
theorem dX9_init_74 : decode cX9_init 74 = .ok (.aload_n 0, 1) := by decide +kernel
theorem dX9_init_75 : decode cX9_init 75 = .ok (.getfield 43, 3) := by decide +kernel
theorem dX9_init_78 : decode cX9_init 78 = .ok (.invokespecial 49, 3) := by decide +kernel
theorem dX9_init_81 : decode cX9_init 81 = .ok (.putfield 52, 3) := by decide +kernel
theorem dX9_init_84 : decode cX9_init 84 = .ok (.aload_n 0, 1) := by decide +kernel
theorem dX9_init_85 : decode cX9_init 85 = .ok (.iconst 5, 1) := by decide +kernel
theorem dX9_init_86 : decode cX9_init 86 = .ok (.newarray .int, 2) := by decide +kernel
theorem dX9_init_88 : decode cX9_init 88 = .ok (.putfield 56, 3) := by decide +kernel
theorem dX9_init_91 : decode cX9_init 91 = .ok (.aload_n 0, 1) := by decide +kernel
theorem dX9_init_92 : decode cX9_init 92 = .ok (.new 59, 3) := by decide +kernel
theorem dX9_init_95 : decode cX9_init 95 = .ok (.dup, 1) := by decide +kernel
theorem dX9_init_96 : decode cX9_init 96 = .ok (.invokespecial 61, 3) := by decide +kernel
theorem dX9_init_99 : decode cX9_init 99 = .ok (.putfield 62, 3) := by decide +kernel
theorem dX9_init_102 : decode cX9_init 102 = .ok (.aload_n 0, 1) := by decide +kernel
theorem dX9_init_103 : decode cX9_init 103 = .ok (.new 66, 3) := by decide +kernel
theorem dX9_init_106 : decode cX9_init 106 = .ok (.dup, 1) := by decide +kernel
theorem dX9_init_107 : decode cX9_init 107 = .ok (.invokespecial 68, 3) := by decide +kernel
theorem dX9_init_110 : decode cX9_init 110 = .ok (.putfield 69, 3) := by decide +kernel
theorem dX9_init_113 : decode cX9_init 113 = .ok (.aload_n 0, 1) := by decide +kernel
theorem dX9_init_114 : decode cX9_init 114 = .ok (.new 73, 3) := by decide +kernel
theorem dX9_init_117 : decode cX9_init 117 = .ok (.dup, 1) := by decide +kernel
theorem dX9_init_118 : decode cX9_init 118 = .ok (.invokespecial 75, 3) := by decide +kernel
theorem dX9_init_121 : decode cX9_init 121 = .ok (.putfield 76, 3) := by decide +kernel
theorem dX9_init_124 : decode cX9_init 124 = .ok (.aload_n 0, 1) := by decide +kernel
theorem dX9_init_125 : decode cX9_init 125 = .ok (.bipush 6, 2) := by decide +kernel
theorem dX9_init_127 : decode cX9_init 127 = .ok (.anewarray 80, 3) := by decide +kernel
theorem dX9_init_130 : decode cX9_init 130 = .ok (.putfield 82, 3) := by decide +kernel
theorem dX9_init_133 : decode cX9_init 133 = .ok (.iconst 0, 1) := by decide +kernel
theorem dX9_init_134 : decode cX9_init 134 = .ok (.istore_n 1, 1) := by decide +kernel
theorem dX9_init_135 : decode cX9_init 135 = .ok (.iload_n 1, 1) := by decide +kernel
theorem dX9_init_136 : decode cX9_init 136 = .ok (.bipush 6, 2) := by decide +kernel
theorem dX9_init_138 : decode cX9_init 138 = .ok (.if_icmp .ge 22, 3) := by decide +kernel
theorem dX9_init_141 : decode cX9_init 141 = .ok (.aload_n 0, 1) := by decide +kernel
theorem dX9_init_142 : decode cX9_init 142 = .ok (.getfield 82, 3) := by decide +kernel
theorem dX9_init_145 : decode cX9_init 145 = .ok (.iload_n 1, 1) := by decide +kernel
theorem dX9_init_146 : decode cX9_init 146 = .ok (.new 80, 3) := by decide +kernel
theorem dX9_init_149 : decode cX9_init 149 = .ok (.dup, 1) := by decide +kernel
theorem dX9_init_150 : decode cX9_init 150 = .ok (.invokespecial 86, 3) := by decide +kernel
theorem dX9_init_153 : decode cX9_init 153 = .ok (.aastore, 1) := by decide +kernel
theorem dX9_init_154 : decode cX9_init 154 = .ok (.iinc 1 1, 3) := by decide +kernel
theorem dX9_init_157 : decode cX9_init 157 = .ok (.goto (-22), 3) := by decide +kernel
theorem dX9_init_160 : decode cX9_init 160 = .ok (.return_, 1) := by decide +kernel
theorem dX9_guest_0 : decode cX9_guest 0 = .ok (.iload_n 1, 1) := by decide +kernel
theorem dX9_guest_1 : decode cX9_guest 1 = .ok (.iconst 3, 1) := by decide +kernel
theorem dX9_guest_2 : decode cX9_guest 2 = .ok (.invokestatic 87, 3) := by decide +kernel
theorem dX9_guest_5 : decode cX9_guest 5 = .ok (.ifCond .eq 11, 3) := by decide +kernel
theorem dX9_guest_8 : decode cX9_guest 8 = .ok (.iload_n 2, 1) := by decide +kernel
theorem dX9_guest_9 : decode cX9_guest 9 = .ok (.iconst 4, 1) := by decide +kernel
theorem dX9_guest_10 : decode cX9_guest 10 = .ok (.invokestatic 87, 3) := by decide +kernel
theorem dX9_guest_13 : decode cX9_guest 13 = .ok (.ifCond .ne 5, 3) := by decide +kernel
theorem dX9_guest_16 : decode cX9_guest 16 = .ok (.iconst (-1), 1) := by decide +kernel
theorem dX9_guest_17 : decode cX9_guest 17 = .ok (.ireturn, 1) := by decide +kernel
theorem dX9_guest_18 : decode cX9_guest 18 = .ok (.aload_n 0, 1) := by decide +kernel
theorem dX9_guest_19 : decode cX9_guest 19 = .ok (.getfield 10, 3) := by decide +kernel
theorem dX9_guest_22 : decode cX9_guest 22 = .ok (.getfield 91, 3) := by decide +kernel
theorem dX9_guest_25 : decode cX9_guest 25 = .ok (.bipush 9, 2) := by decide +kernel
theorem dX9_guest_27 : decode cX9_guest 27 = .ok (.if_icmp .lt 6, 3) := by decide +kernel
theorem dX9_guest_30 : decode cX9_guest 30 = .ok (.bipush (-3), 2) := by decide +kernel
theorem dX9_guest_32 : decode cX9_guest 32 = .ok (.ireturn, 1) := by decide +kernel
theorem dX9_guest_33 : decode cX9_guest 33 = .ok (.aload_n 0, 1) := by decide +kernel
theorem dX9_guest_34 : decode cX9_guest 34 = .ok (.getfield 10, 3) := by decide +kernel
theorem dX9_guest_37 : decode cX9_guest 37 = .ok (.iload_n 1, 1) := by decide +kernel
theorem dX9_guest_38 : decode cX9_guest 38 = .ok (.iload_n 2, 1) := by decide +kernel
theorem dX9_guest_39 : decode cX9_guest 39 = .ok (.invokevirtual 94, 3) := by decide +kernel
theorem dX9_guest_42 : decode cX9_guest 42 = .ok (.ireturn, 1) := by decide +kernel
theorem dX9_guests_0 : decode cX9_guests 0 = .ok (.iload_n 1, 1) := by decide +kernel
theorem dX9_guests_1 : decode cX9_guests 1 = .ok (.invokestatic 98, 3) := by decide +kernel
theorem dX9_guests_4 : decode cX9_guests 4 = .ok (.ifCond .eq 14, 3) := by decide +kernel
theorem dX9_guests_7 : decode cX9_guests 7 = .ok (.iload_n 3, 1) := by decide +kernel
theorem dX9_guests_8 : decode cX9_guests 8 = .ok (.iconst 1, 1) := by decide +kernel
theorem dX9_guests_9 : decode cX9_guests 9 = .ok (.if_icmp .lt 9, 3) := by decide +kernel
theorem dX9_guests_12 : decode cX9_guests 12 = .ok (.iload_n 3, 1) := by decide +kernel
theorem dX9_guests_13 : decode cX9_guests 13 = .ok (.bipush 9, 2) := by decide +kernel
theorem dX9_guests_15 : decode cX9_guests 15 = .ok (.if_icmp .le 5, 3) := by decide +kernel
theorem dX9_guests_18 : decode cX9_guests 18 = .ok (.iconst (-1), 1) := by decide +kernel
theorem dX9_guests_19 : decode cX9_guests 19 = .ok (.ireturn, 1) := by decide +kernel
theorem dX9_guests_20 : decode cX9_guests 20 = .ok (.aload_n 0, 1) := by decide +kernel
theorem dX9_guests_21 : decode cX9_guests 21 = .ok (.getfield 82, 3) := by decide +kernel
theorem dX9_guests_24 : decode cX9_guests 24 = .ok (.iload_n 1, 1) := by decide +kernel
theorem dX9_guests_25 : decode cX9_guests 25 = .ok (.aaload, 1) := by decide +kernel
theorem dX9_guests_26 : decode cX9_guests 26 = .ok (.astore 4, 2) := by decide +kernel
theorem dX9_guests_28 : decode cX9_guests 28 = .ok (.aload 4, 2) := by decide +kernel
theorem dX9_guests_30 : decode cX9_guests 30 = .ok (.getfield 102, 3) := by decide +kernel
theorem dX9_guests_33 : decode cX9_guests 33 = .ok (.ifCond .ne 5, 3) := by decide +kernel
theorem dX9_guests_36 : decode cX9_guests 36 = .ok (.iconst 0, 1) := by decide +kernel
theorem dX9_guests_37 : decode cX9_guests 37 = .ok (.ireturn, 1) := by decide +kernel
theorem dX9_guests_38 : decode cX9_guests 38 = .ok (.aload 4, 2) := by decide +kernel
theorem dX9_guests_40 : decode cX9_guests 40 = .ok (.iconst 0, 1) := by decide +kernel
theorem dX9_guests_41 : decode cX9_guests 41 = .ok (.invokevirtual 105, 3) := by decide +kernel
theorem dX9_guests_44 : decode cX9_guests 44 = .ok (.ifCond .ne 6, 3) := by decide +kernel
theorem dX9_guests_47 : decode cX9_guests 47 = .ok (.bipush (-12), 2) := by decide +kernel
theorem dX9_guests_49 : decode cX9_guests 49 = .ok (.ireturn, 1) := by decide +kernel
theorem dX9_guests_50 : decode cX9_guests 50 = .ok (.iconst 0, 1) := by decide +kernel
theorem dX9_guests_51 : decode cX9_guests 51 = .ok (.istore 5, 2) := by decide +kernel
theorem dX9_guests_53 : decode cX9_guests 53 = .ok (.iconst 0, 1) := by decide +kernel
theorem dX9_guests_54 : decode cX9_guests 54 = .ok (.istore 6, 2) := by decide +kernel
theorem dX9_guests_56 : decode cX9_guests 56 = .ok (.iload 6, 2) := by decide +kernel
theorem dX9_guests_58 : decode cX9_guests 58 = .ok (.iload_n 3, 1) := by decide +kernel
theorem dX9_guests_59 : decode cX9_guests 59 = .ok (.if_icmp .ge 31, 3) := by decide +kernel
theorem dX9_guests_62 : decode cX9_guests 62 = .ok (.aload_n 0, 1) := by decide +kernel
theorem dX9_guests_63 : decode cX9_guests 63 = .ok (.aload 4, 2) := by decide +kernel
theorem dX9_guests_65 : decode cX9_guests 65 = .ok (.iload_n 2, 1) := by decide +kernel
theorem dX9_guests_66 : decode cX9_guests 66 = .ok (.i2l, 1) := by decide +kernel
theorem dX9_guests_67 : decode cX9_guests 67 = .ok (.ldc2_w 108, 3) := by decide +kernel
theorem dX9_guests_70 : decode cX9_guests 70 = .ok (.iload 6, 2) := by decide +kernel
theorem dX9_guests_72 : decode cX9_guests 72 = .ok (.i2l, 1) := by decide +kernel
theorem dX9_guests_73 : decode cX9_guests 73 = .ok (.lmul, 1) := by decide +kernel
theorem dX9_guests_74 : decode cX9_guests 74 = .ok (.ladd, 1) := by decide +kernel
theorem dX9_guests_75 : decode cX9_guests 75 = .ok (.invokevirtual 110, 3) := by decide +kernel
theorem dX9_guests_78 : decode cX9_guests 78 = .ok (.ifCond .eq 12, 3) := by decide +kernel
theorem dX9_guests_81 : decode cX9_guests 81 = .ok (.iinc 5 1, 3) := by decide +kernel
theorem dX9_guests_84 : decode cX9_guests 84 = .ok (.iinc 6 1, 3) := by decide +kernel
theorem dX9_guests_87 : decode cX9_guests 87 = .ok (.goto (-31), 3) := by decide +kernel
theorem dX9_guests_90 : decode cX9_guests 90 = .ok (.iload 5, 2) := by decide +kernel
theorem dX9_guests_92 : decode cX9_guests 92 = .ok (.ireturn, 1) := by decide +kernel
theorem dX9_slip_0 : decode cX9_slip 0 = .ok (.aload_n 0, 1) := by decide +kernel
theorem dX9_slip_1 : decode cX9_slip 1 = .ok (.getfield 10, 3) := by decide +kernel
theorem dX9_slip_4 : decode cX9_slip 4 = .ok (.iload_n 1, 1) := by decide +kernel
theorem dX9_slip_5 : decode cX9_slip 5 = .ok (.invokevirtual 114, 3) := by decide +kernel
theorem dX9_slip_8 : decode cX9_slip 8 = .ok (.ifCond .eq 21, 3) := by decide +kernel
theorem dX9_slip_11 : decode cX9_slip 11 = .ok (.iload_n 2, 1) := by decide +kernel
theorem dX9_slip_12 : decode cX9_slip 12 = .ok (.bipush 6, 2) := by decide +kernel
theorem dX9_slip_14 : decode cX9_slip 14 = .ok (.invokestatic 87, 3) := by decide +kernel
theorem dX9_slip_17 : decode cX9_slip 17 = .ok (.ifCond .eq 12, 3) := by decide +kernel
theorem dX9_slip_20 : decode cX9_slip 20 = .ok (.iload_n 3, 1) := by decide +kernel
theorem dX9_slip_21 : decode cX9_slip 21 = .ok (.bipush 7, 2) := by decide +kernel
theorem dX9_slip_23 : decode cX9_slip 23 = .ok (.invokestatic 87, 3) := by decide +kernel
theorem dX9_slip_26 : decode cX9_slip 26 = .ok (.ifCond .ne 5, 3) := by decide +kernel
theorem dX9_slip_29 : decode cX9_slip 29 = .ok (.iconst (-1), 1) := by decide +kernel
theorem dX9_slip_30 : decode cX9_slip 30 = .ok (.ireturn, 1) := by decide +kernel
theorem dX9_slip_31 : decode cX9_slip 31 = .ok (.aload_n 0, 1) := by decide +kernel
theorem dX9_slip_32 : decode cX9_slip 32 = .ok (.getfield 10, 3) := by decide +kernel
theorem dX9_slip_35 : decode cX9_slip 35 = .ok (.getfield 117, 3) := by decide +kernel
theorem dX9_slip_38 : decode cX9_slip 38 = .ok (.bipush 12, 2) := by decide +kernel
theorem dX9_slip_40 : decode cX9_slip 40 = .ok (.if_icmp .lt 6, 3) := by decide +kernel
theorem dX9_slip_43 : decode cX9_slip 43 = .ok (.bipush (-3), 2) := by decide +kernel
theorem dX9_slip_45 : decode cX9_slip 45 = .ok (.ireturn, 1) := by decide +kernel
theorem dX9_slip_46 : decode cX9_slip 46 = .ok (.aload_n 0, 1) := by decide +kernel
theorem dX9_slip_47 : decode cX9_slip 47 = .ok (.getfield 10, 3) := by decide +kernel
theorem dX9_slip_50 : decode cX9_slip 50 = .ok (.iload_n 1, 1) := by decide +kernel
theorem dX9_slip_51 : decode cX9_slip 51 = .ok (.iload_n 2, 1) := by decide +kernel
theorem dX9_slip_52 : decode cX9_slip 52 = .ok (.iload_n 3, 1) := by decide +kernel
theorem dX9_slip_53 : decode cX9_slip 53 = .ok (.invokevirtual 120, 3) := by decide +kernel
theorem dX9_slip_56 : decode cX9_slip 56 = .ok (.ireturn, 1) := by decide +kernel
theorem dX9_mend_0 : decode cX9_mend 0 = .ok (.iload_n 2, 1) := by decide +kernel
theorem dX9_mend_1 : decode cX9_mend 1 = .ok (.bipush 8, 2) := by decide +kernel
theorem dX9_mend_3 : decode cX9_mend 3 = .ok (.if_icmp .gt 23, 3) := by decide +kernel
theorem dX9_mend_6 : decode cX9_mend 6 = .ok (.aload_n 0, 1) := by decide +kernel
theorem dX9_mend_7 : decode cX9_mend 7 = .ok (.getfield 10, 3) := by decide +kernel
theorem dX9_mend_10 : decode cX9_mend 10 = .ok (.iload_n 1, 1) := by decide +kernel
theorem dX9_mend_11 : decode cX9_mend 11 = .ok (.iload_n 2, 1) := by decide +kernel
theorem dX9_mend_12 : decode cX9_mend 12 = .ok (.invokevirtual 124, 3) := by decide +kernel
theorem dX9_mend_15 : decode cX9_mend 15 = .ok (.ifCond .eq 11, 3) := by decide +kernel
theorem dX9_mend_18 : decode cX9_mend 18 = .ok (.iload_n 3, 1) := by decide +kernel
theorem dX9_mend_19 : decode cX9_mend 19 = .ok (.iload_n 2, 1) := by decide +kernel
theorem dX9_mend_20 : decode cX9_mend 20 = .ok (.invokestatic 87, 3) := by decide +kernel
theorem dX9_mend_23 : decode cX9_mend 23 = .ok (.ifCond .ne 5, 3) := by decide +kernel
theorem dX9_mend_26 : decode cX9_mend 26 = .ok (.iconst (-1), 1) := by decide +kernel
theorem dX9_mend_27 : decode cX9_mend 27 = .ok (.ireturn, 1) := by decide +kernel
theorem dX9_mend_28 : decode cX9_mend 28 = .ok (.aload_n 0, 1) := by decide +kernel
theorem dX9_mend_29 : decode cX9_mend 29 = .ok (.getfield 10, 3) := by decide +kernel
theorem dX9_mend_32 : decode cX9_mend 32 = .ok (.iload_n 1, 1) := by decide +kernel
theorem dX9_mend_33 : decode cX9_mend 33 = .ok (.iload_n 2, 1) := by decide +kernel
theorem dX9_mend_34 : decode cX9_mend 34 = .ok (.invokevirtual 127, 3) := by decide +kernel
theorem dX9_mend_37 : decode cX9_mend 37 = .ok (.istore 4, 2) := by decide +kernel
theorem dX9_mend_39 : decode cX9_mend 39 = .ok (.iload 4, 2) := by decide +kernel
theorem dX9_mend_41 : decode cX9_mend 41 = .ok (.iload_n 3, 1) := by decide +kernel
theorem dX9_mend_42 : decode cX9_mend 42 = .ok (.if_icmp .eq 25, 3) := by decide +kernel
theorem dX9_mend_45 : decode cX9_mend 45 = .ok (.aload_n 0, 1) := by decide +kernel
theorem dX9_mend_46 : decode cX9_mend 46 = .ok (.getfield 10, 3) := by decide +kernel
theorem dX9_mend_49 : decode cX9_mend 49 = .ok (.iload_n 1, 1) := by decide +kernel
theorem dX9_mend_50 : decode cX9_mend 50 = .ok (.iload_n 2, 1) := by decide +kernel
theorem dX9_mend_51 : decode cX9_mend 51 = .ok (.iload_n 3, 1) := by decide +kernel
theorem dX9_mend_52 : decode cX9_mend 52 = .ok (.invokevirtual 130, 3) := by decide +kernel
theorem dX9_mend_55 : decode cX9_mend 55 = .ok (.aload_n 0, 1) := by decide +kernel
theorem dX9_mend_56 : decode cX9_mend 56 = .ok (.getfield 69, 3) := by decide +kernel
theorem dX9_mend_59 : decode cX9_mend 59 = .ok (.iload_n 1, 1) := by decide +kernel
theorem dX9_mend_60 : decode cX9_mend 60 = .ok (.iload_n 2, 1) := by decide +kernel
theorem dX9_mend_61 : decode cX9_mend 61 = .ok (.iload 4, 2) := by decide +kernel
theorem dX9_mend_63 : decode cX9_mend 63 = .ok (.iload_n 3, 1) := by decide +kernel
theorem dX9_mend_64 : decode cX9_mend 64 = .ok (.invokevirtual 134, 3) := by decide +kernel
theorem dX9_mend_67 : decode cX9_mend 67 = .ok (.iload 4, 2) := by decide +kernel
theorem dX9_mend_69 : decode cX9_mend 69 = .ok (.ireturn, 1) := by decide +kernel
theorem dX9_of_0 : decode cX9_of 0 = .ok (.aload_n 0, 1) := by decide +kernel
theorem dX9_of_1 : decode cX9_of 1 = .ok (.getfield 10, 3) := by decide +kernel
theorem dX9_of_4 : decode cX9_of 4 = .ok (.iload_n 1, 1) := by decide +kernel
theorem dX9_of_5 : decode cX9_of 5 = .ok (.iload_n 2, 1) := by decide +kernel
theorem dX9_of_6 : decode cX9_of 6 = .ok (.invokevirtual 124, 3) := by decide +kernel
theorem dX9_of_9 : decode cX9_of 9 = .ok (.ifCond .eq 15, 3) := by decide +kernel
theorem dX9_of_12 : decode cX9_of 12 = .ok (.aload_n 0, 1) := by decide +kernel
theorem dX9_of_13 : decode cX9_of 13 = .ok (.getfield 10, 3) := by decide +kernel
theorem dX9_of_16 : decode cX9_of 16 = .ok (.iload_n 1, 1) := by decide +kernel
theorem dX9_of_17 : decode cX9_of 17 = .ok (.iload_n 2, 1) := by decide +kernel
theorem dX9_of_18 : decode cX9_of 18 = .ok (.invokevirtual 127, 3) := by decide +kernel
theorem dX9_of_21 : decode cX9_of 21 = .ok (.goto 4, 3) := by decide +kernel
theorem dX9_of_24 : decode cX9_of 24 = .ok (.iconst (-1), 1) := by decide +kernel
theorem dX9_of_25 : decode cX9_of 25 = .ok (.ireturn, 1) := by decide +kernel
theorem dX9_feed_0 : decode cX9_feed 0 = .ok (.iload_n 1, 1) := by decide +kernel
theorem dX9_feed_1 : decode cX9_feed 1 = .ok (.ifCond .lt 10, 3) := by decide +kernel
theorem dX9_feed_4 : decode cX9_feed 4 = .ok (.iload_n 1, 1) := by decide +kernel
theorem dX9_feed_5 : decode cX9_feed 5 = .ok (.sipush 255, 3) := by decide +kernel
theorem dX9_feed_8 : decode cX9_feed 8 = .ok (.if_icmp .le 5, 3) := by decide +kernel
theorem dX9_feed_11 : decode cX9_feed 11 = .ok (.iconst (-1), 1) := by decide +kernel
theorem dX9_feed_12 : decode cX9_feed 12 = .ok (.ireturn, 1) := by decide +kernel
theorem dX9_feed_13 : decode cX9_feed 13 = .ok (.aload_n 0, 1) := by decide +kernel
theorem dX9_feed_14 : decode cX9_feed 14 = .ok (.getfield 20, 3) := by decide +kernel
theorem dX9_feed_17 : decode cX9_feed 17 = .ok (.bipush 120, 2) := by decide +kernel
theorem dX9_feed_19 : decode cX9_feed 19 = .ok (.if_icmp .lt 6, 3) := by decide +kernel
theorem dX9_feed_22 : decode cX9_feed 22 = .ok (.bipush (-3), 2) := by decide +kernel
theorem dX9_feed_24 : decode cX9_feed 24 = .ok (.ireturn, 1) := by decide +kernel
theorem dX9_feed_25 : decode cX9_feed 25 = .ok (.aload_n 0, 1) := by decide +kernel
theorem dX9_feed_26 : decode cX9_feed 26 = .ok (.getfield 16, 3) := by decide +kernel
theorem dX9_feed_29 : decode cX9_feed 29 = .ok (.aload_n 0, 1) := by decide +kernel
theorem dX9_feed_30 : decode cX9_feed 30 = .ok (.getfield 20, 3) := by decide +kernel
theorem dX9_feed_33 : decode cX9_feed 33 = .ok (.iload_n 1, 1) := by decide +kernel
theorem dX9_feed_34 : decode cX9_feed 34 = .ok (.iastore, 1) := by decide +kernel
theorem dX9_feed_35 : decode cX9_feed 35 = .ok (.aload_n 0, 1) := by decide +kernel
theorem dX9_feed_36 : decode cX9_feed 36 = .ok (.dup, 1) := by decide +kernel
theorem dX9_feed_37 : decode cX9_feed 37 = .ok (.getfield 20, 3) := by decide +kernel
theorem dX9_feed_40 : decode cX9_feed 40 = .ok (.iconst 1, 1) := by decide +kernel
theorem dX9_feed_41 : decode cX9_feed 41 = .ok (.iadd, 1) := by decide +kernel
theorem dX9_feed_42 : decode cX9_feed 42 = .ok (.putfield 20, 3) := by decide +kernel
theorem dX9_feed_45 : decode cX9_feed 45 = .ok (.aload_n 0, 1) := by decide +kernel
theorem dX9_feed_46 : decode cX9_feed 46 = .ok (.getfield 20, 3) := by decide +kernel
theorem dX9_feed_49 : decode cX9_feed 49 = .ok (.ireturn, 1) := by decide +kernel
theorem dX9_law_0 : decode cX9_law 0 = .ok (.aload_n 0, 1) := by decide +kernel
theorem dX9_law_1 : decode cX9_law 1 = .ok (.getfield 27, 3) := by decide +kernel
theorem dX9_law_4 : decode cX9_law 4 = .ok (.aload_n 0, 1) := by decide +kernel
theorem dX9_law_5 : decode cX9_law 5 = .ok (.getfield 16, 3) := by decide +kernel
theorem dX9_law_8 : decode cX9_law 8 = .ok (.aload_n 0, 1) := by decide +kernel
theorem dX9_law_9 : decode cX9_law 9 = .ok (.getfield 20, 3) := by decide +kernel
theorem dX9_law_12 : decode cX9_law 12 = .ok (.invokevirtual 138, 3) := by decide +kernel
theorem dX9_law_15 : decode cX9_law 15 = .ok (.istore_n 1, 1) := by decide +kernel
theorem dX9_law_16 : decode cX9_law 16 = .ok (.aload_n 0, 1) := by decide +kernel
theorem dX9_law_17 : decode cX9_law 17 = .ok (.iconst 0, 1) := by decide +kernel
theorem dX9_law_18 : decode cX9_law 18 = .ok (.putfield 20, 3) := by decide +kernel
theorem dX9_law_21 : decode cX9_law 21 = .ok (.iload_n 1, 1) := by decide +kernel
theorem dX9_law_22 : decode cX9_law 22 = .ok (.ifCond .lt 8, 3) := by decide +kernel
theorem dX9_law_25 : decode cX9_law 25 = .ok (.bipush (-100), 2) := by decide +kernel
theorem dX9_law_27 : decode cX9_law 27 = .ok (.iload_n 1, 1) := by decide +kernel
theorem dX9_law_28 : decode cX9_law 28 = .ok (.isub, 1) := by decide +kernel
theorem dX9_law_29 : decode cX9_law 29 = .ok (.ireturn, 1) := by decide +kernel
theorem dX9_law_30 : decode cX9_law 30 = .ok (.aload_n 0, 1) := by decide +kernel
theorem dX9_law_31 : decode cX9_law 31 = .ok (.getfield 34, 3) := by decide +kernel
theorem dX9_law_34 : decode cX9_law 34 = .ok (.aload_n 0, 1) := by decide +kernel
theorem dX9_law_35 : decode cX9_law 35 = .ok (.getfield 27, 3) := by decide +kernel
theorem dX9_law_38 : decode cX9_law 38 = .ok (.invokevirtual 142, 3) := by decide +kernel
theorem dX9_law_41 : decode cX9_law 41 = .ok (.iconst 1, 1) := by decide +kernel
theorem dX9_law_42 : decode cX9_law 42 = .ok (.ireturn, 1) := by decide +kernel
theorem dX9_later_0 : decode cX9_later 0 = .ok (.iload_n 1, 1) := by decide +kernel
theorem dX9_later_1 : decode cX9_later 1 = .ok (.invokestatic 146, 3) := by decide +kernel
theorem dX9_later_4 : decode cX9_later 4 = .ok (.ifCond .eq 23, 3) := by decide +kernel
theorem dX9_later_7 : decode cX9_later 7 = .ok (.aload_n 0, 1) := by decide +kernel
theorem dX9_later_8 : decode cX9_later 8 = .ok (.getfield 10, 3) := by decide +kernel
theorem dX9_later_11 : decode cX9_later 11 = .ok (.iload_n 2, 1) := by decide +kernel
theorem dX9_later_12 : decode cX9_later 12 = .ok (.invokevirtual 114, 3) := by decide +kernel
theorem dX9_later_15 : decode cX9_later 15 = .ok (.ifCond .eq 12, 3) := by decide +kernel
theorem dX9_later_18 : decode cX9_later 18 = .ok (.iload_n 3, 1) := by decide +kernel
theorem dX9_later_19 : decode cX9_later 19 = .ok (.ifCond .lt 8, 3) := by decide +kernel
theorem dX9_later_22 : decode cX9_later 22 = .ok (.iload_n 3, 1) := by decide +kernel
theorem dX9_later_23 : decode cX9_later 23 = .ok (.iconst 2, 1) := by decide +kernel
theorem dX9_later_24 : decode cX9_later 24 = .ok (.if_icmp .le 5, 3) := by decide +kernel
theorem dX9_later_27 : decode cX9_later 27 = .ok (.iconst (-1), 1) := by decide +kernel
theorem dX9_later_28 : decode cX9_later 28 = .ok (.ireturn, 1) := by decide +kernel
theorem dX9_later_29 : decode cX9_later 29 = .ok (.aload_n 0, 1) := by decide +kernel
theorem dX9_later_30 : decode cX9_later 30 = .ok (.getfield 43, 3) := by decide +kernel
theorem dX9_later_33 : decode cX9_later 33 = .ok (.iload_n 1, 1) := by decide +kernel
theorem dX9_later_34 : decode cX9_later 34 = .ok (.invokevirtual 149, 3) := by decide +kernel
theorem dX9_later_37 : decode cX9_later 37 = .ok (.iload_n 3, 1) := by decide +kernel
theorem dX9_later_38 : decode cX9_later 38 = .ok (.ifCond .ne 19, 3) := by decide +kernel
theorem dX9_later_41 : decode cX9_later 41 = .ok (.aload_n 0, 1) := by decide +kernel
theorem dX9_later_42 : decode cX9_later 42 = .ok (.getfield 34, 3) := by decide +kernel
theorem dX9_later_45 : decode cX9_later 45 = .ok (.aload_n 0, 1) := by decide +kernel
theorem dX9_later_46 : decode cX9_later 46 = .ok (.getfield 43, 3) := by decide +kernel
theorem dX9_later_49 : decode cX9_later 49 = .ok (.getfield 153, 3) := by decide +kernel
theorem dX9_later_52 : decode cX9_later 52 = .ok (.iload_n 2, 1) := by decide +kernel
theorem dX9_later_53 : decode cX9_later 53 = .ok (.invokevirtual 154, 3) := by decide +kernel
theorem dX9_later_56 : decode cX9_later 56 = .ok (.ireturn, 1) := by decide +kernel
theorem dX9_later_57 : decode cX9_later 57 = .ok (.iload_n 3, 1) := by decide +kernel
theorem dX9_later_58 : decode cX9_later 58 = .ok (.iconst 1, 1) := by decide +kernel
theorem dX9_later_59 : decode cX9_later 59 = .ok (.if_icmp .ne 18, 3) := by decide +kernel
theorem dX9_later_62 : decode cX9_later 62 = .ok (.aload_n 0, 1) := by decide +kernel
theorem dX9_later_63 : decode cX9_later 63 = .ok (.getfield 43, 3) := by decide +kernel
theorem dX9_later_66 : decode cX9_later 66 = .ok (.getfield 153, 3) := by decide +kernel
theorem dX9_later_69 : decode cX9_later 69 = .ok (.getfield 158, 3) := by decide +kernel
theorem dX9_later_72 : decode cX9_later 72 = .ok (.iload_n 2, 1) := by decide +kernel
theorem dX9_later_73 : decode cX9_later 73 = .ok (.iaload, 1) := by decide +kernel
theorem dX9_later_74 : decode cX9_later 74 = .ok (.goto 18, 3) := by decide +kernel
theorem dX9_later_77 : decode cX9_later 77 = .ok (.aload_n 0, 1) := by decide +kernel
theorem dX9_later_78 : decode cX9_later 78 = .ok (.getfield 34, 3) := by decide +kernel
theorem dX9_later_81 : decode cX9_later 81 = .ok (.aload_n 0, 1) := by decide +kernel
theorem dX9_later_82 : decode cX9_later 82 = .ok (.getfield 43, 3) := by decide +kernel
theorem dX9_later_85 : decode cX9_later 85 = .ok (.getfield 153, 3) := by decide +kernel
theorem dX9_later_88 : decode cX9_later 88 = .ok (.iload_n 2, 1) := by decide +kernel
theorem dX9_later_89 : decode cX9_later 89 = .ok (.invokevirtual 161, 3) := by decide +kernel
theorem dX9_later_92 : decode cX9_later 92 = .ok (.ireturn, 1) := by decide +kernel
theorem dX9_first_0 : decode cX9_first 0 = .ok (.iload_n 1, 1) := by decide +kernel
theorem dX9_first_1 : decode cX9_first 1 = .ok (.invokestatic 146, 3) := by decide +kernel
theorem dX9_first_4 : decode cX9_first 4 = .ok (.ifCond .ne 5, 3) := by decide +kernel
theorem dX9_first_7 : decode cX9_first 7 = .ok (.iconst (-1), 1) := by decide +kernel
theorem dX9_first_8 : decode cX9_first 8 = .ok (.ireturn, 1) := by decide +kernel
theorem dX9_first_9 : decode cX9_first 9 = .ok (.aload_n 0, 1) := by decide +kernel
theorem dX9_first_10 : decode cX9_first 10 = .ok (.getfield 43, 3) := by decide +kernel
theorem dX9_first_13 : decode cX9_first 13 = .ok (.iload_n 1, 1) := by decide +kernel
theorem dX9_first_14 : decode cX9_first 14 = .ok (.invokevirtual 149, 3) := by decide +kernel
theorem dX9_first_17 : decode cX9_first 17 = .ok (.aload_n 0, 1) := by decide +kernel
theorem dX9_first_18 : decode cX9_first 18 = .ok (.getfield 34, 3) := by decide +kernel
theorem dX9_first_21 : decode cX9_first 21 = .ok (.aload_n 0, 1) := by decide +kernel
theorem dX9_first_22 : decode cX9_first 22 = .ok (.getfield 43, 3) := by decide +kernel
theorem dX9_first_25 : decode cX9_first 25 = .ok (.getfield 153, 3) := by decide +kernel
theorem dX9_first_28 : decode cX9_first 28 = .ok (.bipush 9, 2) := by decide +kernel
theorem dX9_first_30 : decode cX9_first 30 = .ok (.invokevirtual 164, 3) := by decide +kernel
theorem dX9_first_33 : decode cX9_first 33 = .ok (.ireturn, 1) := by decide +kernel
theorem dX9_peak_0 : decode cX9_peak 0 = .ok (.aload_n 0, 1) := by decide +kernel
theorem dX9_peak_1 : decode cX9_peak 1 = .ok (.getfield 10, 3) := by decide +kernel
theorem dX9_peak_4 : decode cX9_peak 4 = .ok (.iload_n 1, 1) := by decide +kernel
theorem dX9_peak_5 : decode cX9_peak 5 = .ok (.invokevirtual 114, 3) := by decide +kernel
theorem dX9_peak_8 : decode cX9_peak 8 = .ok (.ifCond .eq 10, 3) := by decide +kernel
theorem dX9_peak_11 : decode cX9_peak 11 = .ok (.iload_n 2, 1) := by decide +kernel
theorem dX9_peak_12 : decode cX9_peak 12 = .ok (.invokestatic 167, 3) := by decide +kernel
theorem dX9_peak_15 : decode cX9_peak 15 = .ok (.ifCond .ne 5, 3) := by decide +kernel
theorem dX9_peak_18 : decode cX9_peak 18 = .ok (.iconst (-1), 1) := by decide +kernel
theorem dX9_peak_19 : decode cX9_peak 19 = .ok (.ireturn, 1) := by decide +kernel
theorem dX9_peak_20 : decode cX9_peak 20 = .ok (.aload_n 0, 1) := by decide +kernel
theorem dX9_peak_21 : decode cX9_peak 21 = .ok (.getfield 43, 3) := by decide +kernel
theorem dX9_peak_24 : decode cX9_peak 24 = .ok (.iconst 0, 1) := by decide +kernel
theorem dX9_peak_25 : decode cX9_peak 25 = .ok (.invokevirtual 149, 3) := by decide +kernel
theorem dX9_peak_28 : decode cX9_peak 28 = .ok (.iconst 0, 1) := by decide +kernel
theorem dX9_peak_29 : decode cX9_peak 29 = .ok (.istore_n 3, 1) := by decide +kernel
theorem dX9_peak_30 : decode cX9_peak 30 = .ok (.aload_n 0, 1) := by decide +kernel
theorem dX9_peak_31 : decode cX9_peak 31 = .ok (.getfield 43, 3) := by decide +kernel
theorem dX9_peak_34 : decode cX9_peak 34 = .ok (.getfield 153, 3) := by decide +kernel
theorem dX9_peak_37 : decode cX9_peak 37 = .ok (.getfield 158, 3) := by decide +kernel
theorem dX9_peak_40 : decode cX9_peak 40 = .ok (.iload_n 1, 1) := by decide +kernel
theorem dX9_peak_41 : decode cX9_peak 41 = .ok (.iaload, 1) := by decide +kernel
theorem dX9_peak_42 : decode cX9_peak 42 = .ok (.istore 4, 2) := by decide +kernel
theorem dX9_peak_44 : decode cX9_peak 44 = .ok (.iconst 1, 1) := by decide +kernel
theorem dX9_peak_45 : decode cX9_peak 45 = .ok (.istore 5, 2) := by decide +kernel
theorem dX9_peak_47 : decode cX9_peak 47 = .ok (.iload 5, 2) := by decide +kernel
theorem dX9_peak_49 : decode cX9_peak 49 = .ok (.bipush 60, 2) := by decide +kernel
theorem dX9_peak_51 : decode cX9_peak 51 = .ok (.if_icmp .gt 53, 3) := by decide +kernel
theorem dX9_peak_54 : decode cX9_peak 54 = .ok (.aload_n 0, 1) := by decide +kernel
theorem dX9_peak_55 : decode cX9_peak 55 = .ok (.getfield 43, 3) := by decide +kernel
theorem dX9_peak_58 : decode cX9_peak 58 = .ok (.getfield 153, 3) := by decide +kernel
theorem dX9_peak_61 : decode cX9_peak 61 = .ok (.invokevirtual 170, 3) := by decide +kernel
theorem dX9_peak_64 : decode cX9_peak 64 = .ok (.aload_n 0, 1) := by decide +kernel
theorem dX9_peak_65 : decode cX9_peak 65 = .ok (.getfield 43, 3) := by decide +kernel
theorem dX9_peak_68 : decode cX9_peak 68 = .ok (.getfield 153, 3) := by decide +kernel
theorem dX9_peak_71 : decode cX9_peak 71 = .ok (.getfield 158, 3) := by decide +kernel
theorem dX9_peak_74 : decode cX9_peak 74 = .ok (.iload_n 1, 1) := by decide +kernel
theorem dX9_peak_75 : decode cX9_peak 75 = .ok (.iaload, 1) := by decide +kernel
theorem dX9_peak_76 : decode cX9_peak 76 = .ok (.iload 4, 2) := by decide +kernel
theorem dX9_peak_78 : decode cX9_peak 78 = .ok (.if_icmp .le 20, 3) := by decide +kernel
theorem dX9_peak_81 : decode cX9_peak 81 = .ok (.aload_n 0, 1) := by decide +kernel
theorem dX9_peak_82 : decode cX9_peak 82 = .ok (.getfield 43, 3) := by decide +kernel
theorem dX9_peak_85 : decode cX9_peak 85 = .ok (.getfield 153, 3) := by decide +kernel
theorem dX9_peak_88 : decode cX9_peak 88 = .ok (.getfield 158, 3) := by decide +kernel
theorem dX9_peak_91 : decode cX9_peak 91 = .ok (.iload_n 1, 1) := by decide +kernel
theorem dX9_peak_92 : decode cX9_peak 92 = .ok (.iaload, 1) := by decide +kernel
theorem dX9_peak_93 : decode cX9_peak 93 = .ok (.istore 4, 2) := by decide +kernel
theorem dX9_peak_95 : decode cX9_peak 95 = .ok (.iload 5, 2) := by decide +kernel
theorem dX9_peak_97 : decode cX9_peak 97 = .ok (.istore_n 3, 1) := by decide +kernel
theorem dX9_peak_98 : decode cX9_peak 98 = .ok (.iinc 5 1, 3) := by decide +kernel
theorem dX9_peak_101 : decode cX9_peak 101 = .ok (.goto (-54), 3) := by decide +kernel
theorem dX9_peak_104 : decode cX9_peak 104 = .ok (.iload_n 2, 1) := by decide +kernel
theorem dX9_peak_105 : decode cX9_peak 105 = .ok (.ifCond .ne 7, 3) := by decide +kernel
theorem dX9_peak_108 : decode cX9_peak 108 = .ok (.iload_n 3, 1) := by decide +kernel
theorem dX9_peak_109 : decode cX9_peak 109 = .ok (.goto 5, 3) := by decide +kernel
theorem dX9_peak_112 : decode cX9_peak 112 = .ok (.iload 4, 2) := by decide +kernel
theorem dX9_peak_114 : decode cX9_peak 114 = .ok (.ireturn, 1) := by decide +kernel
theorem dX9_goesAs_0 : decode cX9_goesAs 0 = .ok (.iload_n 1, 1) := by decide +kernel
theorem dX9_goesAs_1 : decode cX9_goesAs 1 = .ok (.invokestatic 146, 3) := by decide +kernel
theorem dX9_goesAs_4 : decode cX9_goesAs 4 = .ok (.ifCond .eq 7, 3) := by decide +kernel
theorem dX9_goesAs_7 : decode cX9_goesAs 7 = .ok (.iload_n 2, 1) := by decide +kernel
theorem dX9_goesAs_8 : decode cX9_goesAs 8 = .ok (.ifCond .ge 5, 3) := by decide +kernel
theorem dX9_goesAs_11 : decode cX9_goesAs 11 = .ok (.iconst (-1), 1) := by decide +kernel
theorem dX9_goesAs_12 : decode cX9_goesAs 12 = .ok (.ireturn, 1) := by decide +kernel
theorem dX9_goesAs_13 : decode cX9_goesAs 13 = .ok (.aload_n 0, 1) := by decide +kernel
theorem dX9_goesAs_14 : decode cX9_goesAs 14 = .ok (.getfield 43, 3) := by decide +kernel
theorem dX9_goesAs_17 : decode cX9_goesAs 17 = .ok (.iload_n 1, 1) := by decide +kernel
theorem dX9_goesAs_18 : decode cX9_goesAs 18 = .ok (.invokevirtual 149, 3) := by decide +kernel
theorem dX9_goesAs_21 : decode cX9_goesAs 21 = .ok (.aload_n 0, 1) := by decide +kernel
theorem dX9_goesAs_22 : decode cX9_goesAs 22 = .ok (.getfield 43, 3) := by decide +kernel
theorem dX9_goesAs_25 : decode cX9_goesAs 25 = .ok (.bipush 9, 2) := by decide +kernel
theorem dX9_goesAs_27 : decode cX9_goesAs 27 = .ok (.invokevirtual 173, 3) := by decide +kernel
theorem dX9_goesAs_30 : decode cX9_goesAs 30 = .ok (.iload_n 2, 1) := by decide +kernel
theorem dX9_goesAs_31 : decode cX9_goesAs 31 = .ok (.aload_n 0, 1) := by decide +kernel
theorem dX9_goesAs_32 : decode cX9_goesAs 32 = .ok (.getfield 43, 3) := by decide +kernel
theorem dX9_goesAs_35 : decode cX9_goesAs 35 = .ok (.getfield 176, 3) := by decide +kernel
theorem dX9_goesAs_38 : decode cX9_goesAs 38 = .ok (.if_icmp .ge 15, 3) := by decide +kernel
theorem dX9_goesAs_41 : decode cX9_goesAs 41 = .ok (.aload_n 0, 1) := by decide +kernel
theorem dX9_goesAs_42 : decode cX9_goesAs 42 = .ok (.getfield 43, 3) := by decide +kernel
theorem dX9_goesAs_45 : decode cX9_goesAs 45 = .ok (.getfield 179, 3) := by decide +kernel
theorem dX9_goesAs_48 : decode cX9_goesAs 48 = .ok (.iload_n 2, 1) := by decide +kernel
theorem dX9_goesAs_49 : decode cX9_goesAs 49 = .ok (.iaload, 1) := by decide +kernel
theorem dX9_goesAs_50 : decode cX9_goesAs 50 = .ok (.goto 5, 3) := by decide +kernel
theorem dX9_goesAs_53 : decode cX9_goesAs 53 = .ok (.bipush (-2), 2) := by decide +kernel
theorem dX9_goesAs_55 : decode cX9_goesAs 55 = .ok (.ireturn, 1) := by decide +kernel
theorem dX9_goesWhen_0 : decode cX9_goesWhen 0 = .ok (.iload_n 1, 1) := by decide +kernel
theorem dX9_goesWhen_1 : decode cX9_goesWhen 1 = .ok (.invokestatic 146, 3) := by decide +kernel
theorem dX9_goesWhen_4 : decode cX9_goesWhen 4 = .ok (.ifCond .eq 14, 3) := by decide +kernel
theorem dX9_goesWhen_7 : decode cX9_goesWhen 7 = .ok (.aload_n 0, 1) := by decide +kernel
theorem dX9_goesWhen_8 : decode cX9_goesWhen 8 = .ok (.getfield 10, 3) := by decide +kernel
theorem dX9_goesWhen_11 : decode cX9_goesWhen 11 = .ok (.iload_n 2, 1) := by decide +kernel
theorem dX9_goesWhen_12 : decode cX9_goesWhen 12 = .ok (.invokevirtual 114, 3) := by decide +kernel
theorem dX9_goesWhen_15 : decode cX9_goesWhen 15 = .ok (.ifCond .ne 5, 3) := by decide +kernel
theorem dX9_goesWhen_18 : decode cX9_goesWhen 18 = .ok (.iconst (-1), 1) := by decide +kernel
theorem dX9_goesWhen_19 : decode cX9_goesWhen 19 = .ok (.ireturn, 1) := by decide +kernel
theorem dX9_goesWhen_20 : decode cX9_goesWhen 20 = .ok (.aload_n 0, 1) := by decide +kernel
theorem dX9_goesWhen_21 : decode cX9_goesWhen 21 = .ok (.getfield 10, 3) := by decide +kernel
theorem dX9_goesWhen_24 : decode cX9_goesWhen 24 = .ok (.iload_n 2, 1) := by decide +kernel
theorem dX9_goesWhen_25 : decode cX9_goesWhen 25 = .ok (.invokevirtual 182, 3) := by decide +kernel
theorem dX9_goesWhen_28 : decode cX9_goesWhen 28 = .ok (.ifCond .ne 6, 3) := by decide +kernel
theorem dX9_goesWhen_31 : decode cX9_goesWhen 31 = .ok (.bipush (-2), 2) := by decide +kernel
theorem dX9_goesWhen_33 : decode cX9_goesWhen 33 = .ok (.ireturn, 1) := by decide +kernel
theorem dX9_goesWhen_34 : decode cX9_goesWhen 34 = .ok (.aload_n 0, 1) := by decide +kernel
theorem dX9_goesWhen_35 : decode cX9_goesWhen 35 = .ok (.getfield 43, 3) := by decide +kernel
theorem dX9_goesWhen_38 : decode cX9_goesWhen 38 = .ok (.iload_n 1, 1) := by decide +kernel
theorem dX9_goesWhen_39 : decode cX9_goesWhen 39 = .ok (.invokevirtual 149, 3) := by decide +kernel
theorem dX9_goesWhen_42 : decode cX9_goesWhen 42 = .ok (.aload_n 0, 1) := by decide +kernel
theorem dX9_goesWhen_43 : decode cX9_goesWhen 43 = .ok (.getfield 43, 3) := by decide +kernel
theorem dX9_goesWhen_46 : decode cX9_goesWhen 46 = .ok (.bipush 9, 2) := by decide +kernel
theorem dX9_goesWhen_48 : decode cX9_goesWhen 48 = .ok (.invokevirtual 173, 3) := by decide +kernel
theorem dX9_goesWhen_51 : decode cX9_goesWhen 51 = .ok (.iload_n 1, 1) := by decide +kernel
theorem dX9_goesWhen_52 : decode cX9_goesWhen 52 = .ok (.aload_n 0, 1) := by decide +kernel
theorem dX9_goesWhen_53 : decode cX9_goesWhen 53 = .ok (.getfield 43, 3) := by decide +kernel
theorem dX9_goesWhen_56 : decode cX9_goesWhen 56 = .ok (.iload_n 2, 1) := by decide +kernel
theorem dX9_goesWhen_57 : decode cX9_goesWhen 57 = .ok (.invokevirtual 185, 3) := by decide +kernel
theorem dX9_goesWhen_60 : decode cX9_goesWhen 60 = .ok (.iadd, 1) := by decide +kernel
theorem dX9_goesWhen_61 : decode cX9_goesWhen 61 = .ok (.ireturn, 1) := by decide +kernel
theorem dX9_waits_0 : decode cX9_waits 0 = .ok (.iload_n 1, 1) := by decide +kernel
theorem dX9_waits_1 : decode cX9_waits 1 = .ok (.invokestatic 146, 3) := by decide +kernel
theorem dX9_waits_4 : decode cX9_waits 4 = .ok (.ifCond .ne 5, 3) := by decide +kernel
theorem dX9_waits_7 : decode cX9_waits 7 = .ok (.iconst (-1), 1) := by decide +kernel
theorem dX9_waits_8 : decode cX9_waits 8 = .ok (.ireturn, 1) := by decide +kernel
theorem dX9_waits_9 : decode cX9_waits 9 = .ok (.iconst 0, 1) := by decide +kernel
theorem dX9_waits_10 : decode cX9_waits 10 = .ok (.istore_n 2, 1) := by decide +kernel
theorem dX9_waits_11 : decode cX9_waits 11 = .ok (.aload_n 0, 1) := by decide +kernel
theorem dX9_waits_12 : decode cX9_waits 12 = .ok (.getfield 10, 3) := by decide +kernel
theorem dX9_waits_15 : decode cX9_waits 15 = .ok (.invokevirtual 189, 3) := by decide +kernel
theorem dX9_waits_18 : decode cX9_waits 18 = .ok (.istore_n 3, 1) := by decide +kernel
theorem dX9_waits_19 : decode cX9_waits 19 = .ok (.iconst 0, 1) := by decide +kernel
theorem dX9_waits_20 : decode cX9_waits 20 = .ok (.istore 4, 2) := by decide +kernel
theorem dX9_waits_22 : decode cX9_waits 22 = .ok (.iload 4, 2) := by decide +kernel
theorem dX9_waits_24 : decode cX9_waits 24 = .ok (.iload_n 3, 1) := by decide +kernel
theorem dX9_waits_25 : decode cX9_waits 25 = .ok (.if_icmp .ge 16, 3) := by decide +kernel
theorem dX9_waits_28 : decode cX9_waits 28 = .ok (.iload_n 2, 1) := by decide +kernel
theorem dX9_waits_29 : decode cX9_waits 29 = .ok (.iload_n 1, 1) := by decide +kernel
theorem dX9_waits_30 : decode cX9_waits 30 = .ok (.iload 4, 2) := by decide +kernel
theorem dX9_waits_32 : decode cX9_waits 32 = .ok (.iadd, 1) := by decide +kernel
theorem dX9_waits_33 : decode cX9_waits 33 = .ok (.iadd, 1) := by decide +kernel
theorem dX9_waits_34 : decode cX9_waits 34 = .ok (.istore_n 2, 1) := by decide +kernel
theorem dX9_waits_35 : decode cX9_waits 35 = .ok (.iinc 4 1, 3) := by decide +kernel
theorem dX9_waits_38 : decode cX9_waits 38 = .ok (.goto (-16), 3) := by decide +kernel
theorem dX9_waits_41 : decode cX9_waits 41 = .ok (.iload_n 2, 1) := by decide +kernel
theorem dX9_waits_42 : decode cX9_waits 42 = .ok (.ireturn, 1) := by decide +kernel
theorem dX9_sorry_0 : decode cX9_sorry 0 = .ok (.aload_n 0, 1) := by decide +kernel
theorem dX9_sorry_1 : decode cX9_sorry 1 = .ok (.getfield 10, 3) := by decide +kernel
theorem dX9_sorry_4 : decode cX9_sorry 4 = .ok (.iload_n 1, 1) := by decide +kernel
theorem dX9_sorry_5 : decode cX9_sorry 5 = .ok (.invokevirtual 114, 3) := by decide +kernel
theorem dX9_sorry_8 : decode cX9_sorry 8 = .ok (.ifCond .eq 13, 3) := by decide +kernel
theorem dX9_sorry_11 : decode cX9_sorry 11 = .ok (.iload_n 2, 1) := by decide +kernel
theorem dX9_sorry_12 : decode cX9_sorry 12 = .ok (.ifCond .lt 9, 3) := by decide +kernel
theorem dX9_sorry_15 : decode cX9_sorry 15 = .ok (.iload_n 2, 1) := by decide +kernel
theorem dX9_sorry_16 : decode cX9_sorry 16 = .ok (.bipush 9, 2) := by decide +kernel
theorem dX9_sorry_18 : decode cX9_sorry 18 = .ok (.if_icmp .lt 5, 3) := by decide +kernel
theorem dX9_sorry_21 : decode cX9_sorry 21 = .ok (.iconst (-1), 1) := by decide +kernel
theorem dX9_sorry_22 : decode cX9_sorry 22 = .ok (.ireturn, 1) := by decide +kernel
theorem dX9_sorry_23 : decode cX9_sorry 23 = .ok (.aload_n 0, 1) := by decide +kernel
theorem dX9_sorry_24 : decode cX9_sorry 24 = .ok (.getfield 10, 3) := by decide +kernel
theorem dX9_sorry_27 : decode cX9_sorry 27 = .ok (.iload_n 1, 1) := by decide +kernel
theorem dX9_sorry_28 : decode cX9_sorry 28 = .ok (.invokevirtual 182, 3) := by decide +kernel
theorem dX9_sorry_31 : decode cX9_sorry 31 = .ok (.ifCond .ne 6, 3) := by decide +kernel
theorem dX9_sorry_34 : decode cX9_sorry 34 = .ok (.bipush (-2), 2) := by decide +kernel
theorem dX9_sorry_36 : decode cX9_sorry 36 = .ok (.ireturn, 1) := by decide +kernel
theorem dX9_sorry_37 : decode cX9_sorry 37 = .ok (.iconst 0, 1) := by decide +kernel
theorem dX9_sorry_38 : decode cX9_sorry 38 = .ok (.istore_n 3, 1) := by decide +kernel
theorem dX9_sorry_39 : decode cX9_sorry 39 = .ok (.iload_n 3, 1) := by decide +kernel
theorem dX9_sorry_40 : decode cX9_sorry 40 = .ok (.bipush 9, 2) := by decide +kernel
theorem dX9_sorry_42 : decode cX9_sorry 42 = .ok (.if_icmp .gt 53, 3) := by decide +kernel
theorem dX9_sorry_45 : decode cX9_sorry 45 = .ok (.aload_n 0, 1) := by decide +kernel
theorem dX9_sorry_46 : decode cX9_sorry 46 = .ok (.getfield 43, 3) := by decide +kernel
theorem dX9_sorry_49 : decode cX9_sorry 49 = .ok (.iconst 0, 1) := by decide +kernel
theorem dX9_sorry_50 : decode cX9_sorry 50 = .ok (.invokevirtual 149, 3) := by decide +kernel
theorem dX9_sorry_53 : decode cX9_sorry 53 = .ok (.aload_n 0, 1) := by decide +kernel
theorem dX9_sorry_54 : decode cX9_sorry 54 = .ok (.getfield 43, 3) := by decide +kernel
theorem dX9_sorry_57 : decode cX9_sorry 57 = .ok (.getfield 153, 3) := by decide +kernel
theorem dX9_sorry_60 : decode cX9_sorry 60 = .ok (.getfield 193, 3) := by decide +kernel
theorem dX9_sorry_63 : decode cX9_sorry 63 = .ok (.iload_n 1, 1) := by decide +kernel
theorem dX9_sorry_64 : decode cX9_sorry 64 = .ok (.iload_n 3, 1) := by decide +kernel
theorem dX9_sorry_65 : decode cX9_sorry 65 = .ok (.iastore, 1) := by decide +kernel
theorem dX9_sorry_66 : decode cX9_sorry 66 = .ok (.aload_n 0, 1) := by decide +kernel
theorem dX9_sorry_67 : decode cX9_sorry 67 = .ok (.getfield 43, 3) := by decide +kernel
theorem dX9_sorry_70 : decode cX9_sorry 70 = .ok (.bipush 9, 2) := by decide +kernel
theorem dX9_sorry_72 : decode cX9_sorry 72 = .ok (.invokevirtual 173, 3) := by decide +kernel
theorem dX9_sorry_75 : decode cX9_sorry 75 = .ok (.aload_n 0, 1) := by decide +kernel
theorem dX9_sorry_76 : decode cX9_sorry 76 = .ok (.getfield 43, 3) := by decide +kernel
theorem dX9_sorry_79 : decode cX9_sorry 79 = .ok (.iload_n 1, 1) := by decide +kernel
theorem dX9_sorry_80 : decode cX9_sorry 80 = .ok (.invokevirtual 185, 3) := by decide +kernel
theorem dX9_sorry_83 : decode cX9_sorry 83 = .ok (.iload_n 2, 1) := by decide +kernel
theorem dX9_sorry_84 : decode cX9_sorry 84 = .ok (.if_icmp .gt 5, 3) := by decide +kernel
theorem dX9_sorry_87 : decode cX9_sorry 87 = .ok (.iload_n 3, 1) := by decide +kernel
theorem dX9_sorry_88 : decode cX9_sorry 88 = .ok (.ireturn, 1) := by decide +kernel
theorem dX9_sorry_89 : decode cX9_sorry 89 = .ok (.iinc 3 1, 3) := by decide +kernel
theorem dX9_sorry_92 : decode cX9_sorry 92 = .ok (.goto (-53), 3) := by decide +kernel
theorem dX9_sorry_95 : decode cX9_sorry 95 = .ok (.bipush (-2), 2) := by decide +kernel
theorem dX9_sorry_97 : decode cX9_sorry 97 = .ok (.ireturn, 1) := by decide +kernel
theorem dX9_slipWhen_0 : decode cX9_slipWhen 0 = .ok (.iload_n 2, 1) := by decide +kernel
theorem dX9_slipWhen_1 : decode cX9_slipWhen 1 = .ok (.bipush 100, 2) := by decide +kernel
theorem dX9_slipWhen_3 : decode cX9_slipWhen 3 = .ok (.idiv, 1) := by decide +kernel
theorem dX9_slipWhen_4 : decode cX9_slipWhen 4 = .ok (.istore 4, 2) := by decide +kernel
theorem dX9_slipWhen_6 : decode cX9_slipWhen 6 = .ok (.iload_n 2, 1) := by decide +kernel
theorem dX9_slipWhen_7 : decode cX9_slipWhen 7 = .ok (.bipush 100, 2) := by decide +kernel
theorem dX9_slipWhen_9 : decode cX9_slipWhen 9 = .ok (.irem, 1) := by decide +kernel
theorem dX9_slipWhen_10 : decode cX9_slipWhen 10 = .ok (.istore 5, 2) := by decide +kernel
theorem dX9_slipWhen_12 : decode cX9_slipWhen 12 = .ok (.aload_n 0, 1) := by decide +kernel
theorem dX9_slipWhen_13 : decode cX9_slipWhen 13 = .ok (.getfield 10, 3) := by decide +kernel
theorem dX9_slipWhen_16 : decode cX9_slipWhen 16 = .ok (.iload_n 1, 1) := by decide +kernel
theorem dX9_slipWhen_17 : decode cX9_slipWhen 17 = .ok (.invokevirtual 114, 3) := by decide +kernel
theorem dX9_slipWhen_20 : decode cX9_slipWhen 20 = .ok (.ifCond .eq 27, 3) := by decide +kernel
theorem dX9_slipWhen_23 : decode cX9_slipWhen 23 = .ok (.iload 4, 2) := by decide +kernel
theorem dX9_slipWhen_25 : decode cX9_slipWhen 25 = .ok (.bipush 7, 2) := by decide +kernel
theorem dX9_slipWhen_27 : decode cX9_slipWhen 27 = .ok (.invokestatic 87, 3) := by decide +kernel
theorem dX9_slipWhen_30 : decode cX9_slipWhen 30 = .ok (.ifCond .eq 17, 3) := by decide +kernel
theorem dX9_slipWhen_33 : decode cX9_slipWhen 33 = .ok (.iload 5, 2) := by decide +kernel
theorem dX9_slipWhen_35 : decode cX9_slipWhen 35 = .ok (.bipush 30, 2) := by decide +kernel
theorem dX9_slipWhen_37 : decode cX9_slipWhen 37 = .ok (.if_icmp .gt 10, 3) := by decide +kernel
theorem dX9_slipWhen_40 : decode cX9_slipWhen 40 = .ok (.iload_n 3, 1) := by decide +kernel
theorem dX9_slipWhen_41 : decode cX9_slipWhen 41 = .ok (.invokestatic 167, 3) := by decide +kernel
theorem dX9_slipWhen_44 : decode cX9_slipWhen 44 = .ok (.ifCond .ne 5, 3) := by decide +kernel
theorem dX9_slipWhen_47 : decode cX9_slipWhen 47 = .ok (.iconst (-1), 1) := by decide +kernel
theorem dX9_slipWhen_48 : decode cX9_slipWhen 48 = .ok (.ireturn, 1) := by decide +kernel
theorem dX9_slipWhen_49 : decode cX9_slipWhen 49 = .ok (.aload_n 0, 1) := by decide +kernel
theorem dX9_slipWhen_50 : decode cX9_slipWhen 50 = .ok (.getfield 10, 3) := by decide +kernel
theorem dX9_slipWhen_53 : decode cX9_slipWhen 53 = .ok (.iload_n 1, 1) := by decide +kernel
theorem dX9_slipWhen_54 : decode cX9_slipWhen 54 = .ok (.invokevirtual 182, 3) := by decide +kernel
theorem dX9_slipWhen_57 : decode cX9_slipWhen 57 = .ok (.ifCond .ne 6, 3) := by decide +kernel
theorem dX9_slipWhen_60 : decode cX9_slipWhen 60 = .ok (.bipush (-5), 2) := by decide +kernel
theorem dX9_slipWhen_62 : decode cX9_slipWhen 62 = .ok (.ireturn, 1) := by decide +kernel
theorem dX9_slipWhen_63 : decode cX9_slipWhen 63 = .ok (.iconst 0, 1) := by decide +kernel
theorem dX9_slipWhen_64 : decode cX9_slipWhen 64 = .ok (.istore 6, 2) := by decide +kernel
theorem dX9_slipWhen_66 : decode cX9_slipWhen 66 = .ok (.bipush 9, 2) := by decide +kernel
theorem dX9_slipWhen_68 : decode cX9_slipWhen 68 = .ok (.istore 7, 2) := by decide +kernel
theorem dX9_slipWhen_70 : decode cX9_slipWhen 70 = .ok (.iconst 0, 1) := by decide +kernel
theorem dX9_slipWhen_71 : decode cX9_slipWhen 71 = .ok (.istore 8, 2) := by decide +kernel
theorem dX9_slipWhen_73 : decode cX9_slipWhen 73 = .ok (.iload 8, 2) := by decide +kernel
theorem dX9_slipWhen_75 : decode cX9_slipWhen 75 = .ok (.bipush 30, 2) := by decide +kernel
theorem dX9_slipWhen_77 : decode cX9_slipWhen 77 = .ok (.if_icmp .gt 40, 3) := by decide +kernel
theorem dX9_slipWhen_80 : decode cX9_slipWhen 80 = .ok (.aload_n 0, 1) := by decide +kernel
theorem dX9_slipWhen_81 : decode cX9_slipWhen 81 = .ok (.getfield 43, 3) := by decide +kernel
theorem dX9_slipWhen_84 : decode cX9_slipWhen 84 = .ok (.iload_n 1, 1) := by decide +kernel
theorem dX9_slipWhen_85 : decode cX9_slipWhen 85 = .ok (.iload 8, 2) := by decide +kernel
theorem dX9_slipWhen_87 : decode cX9_slipWhen 87 = .ok (.iload 4, 2) := by decide +kernel
theorem dX9_slipWhen_89 : decode cX9_slipWhen 89 = .ok (.iload 5, 2) := by decide +kernel
theorem dX9_slipWhen_91 : decode cX9_slipWhen 91 = .ok (.invokevirtual 196, 3) := by decide +kernel
theorem dX9_slipWhen_94 : decode cX9_slipWhen 94 = .ok (.istore 9, 2) := by decide +kernel
theorem dX9_slipWhen_96 : decode cX9_slipWhen 96 = .ok (.iload 9, 2) := by decide +kernel
theorem dX9_slipWhen_98 : decode cX9_slipWhen 98 = .ok (.iload 7, 2) := by decide +kernel
theorem dX9_slipWhen_100 : decode cX9_slipWhen 100 = .ok (.if_icmp .ge 11, 3) := by decide +kernel
theorem dX9_slipWhen_103 : decode cX9_slipWhen 103 = .ok (.iload 9, 2) := by decide +kernel
theorem dX9_slipWhen_105 : decode cX9_slipWhen 105 = .ok (.istore 7, 2) := by decide +kernel
theorem dX9_slipWhen_107 : decode cX9_slipWhen 107 = .ok (.iload 8, 2) := by decide +kernel
theorem dX9_slipWhen_109 : decode cX9_slipWhen 109 = .ok (.istore 6, 2) := by decide +kernel
theorem dX9_slipWhen_111 : decode cX9_slipWhen 111 = .ok (.iinc 8 1, 3) := by decide +kernel
theorem dX9_slipWhen_114 : decode cX9_slipWhen 114 = .ok (.goto (-41), 3) := by decide +kernel
theorem dX9_slipWhen_117 : decode cX9_slipWhen 117 = .ok (.iload_n 3, 1) := by decide +kernel
theorem dX9_slipWhen_118 : decode cX9_slipWhen 118 = .ok (.ifCond .ne 8, 3) := by decide +kernel
theorem dX9_slipWhen_121 : decode cX9_slipWhen 121 = .ok (.iload 6, 2) := by decide +kernel
theorem dX9_slipWhen_123 : decode cX9_slipWhen 123 = .ok (.goto 5, 3) := by decide +kernel
theorem dX9_slipWhen_126 : decode cX9_slipWhen 126 = .ok (.iload 7, 2) := by decide +kernel
theorem dX9_slipWhen_128 : decode cX9_slipWhen 128 = .ok (.ireturn, 1) := by decide +kernel
theorem dX9_held_0 : decode cX9_held 0 = .ok (.iload_n 1, 1) := by decide +kernel
theorem dX9_held_1 : decode cX9_held 1 = .ok (.invokestatic 167, 3) := by decide +kernel
theorem dX9_held_4 : decode cX9_held 4 = .ok (.ifCond .ne 5, 3) := by decide +kernel
theorem dX9_held_7 : decode cX9_held 7 = .ok (.iconst (-1), 1) := by decide +kernel
theorem dX9_held_8 : decode cX9_held 8 = .ok (.ireturn, 1) := by decide +kernel
theorem dX9_held_9 : decode cX9_held 9 = .ok (.bipush 9, 2) := by decide +kernel
theorem dX9_held_11 : decode cX9_held 11 = .ok (.istore_n 2, 1) := by decide +kernel
theorem dX9_held_12 : decode cX9_held 12 = .ok (.aload_n 0, 1) := by decide +kernel
theorem dX9_held_13 : decode cX9_held 13 = .ok (.getfield 43, 3) := by decide +kernel
theorem dX9_held_16 : decode cX9_held 16 = .ok (.bipush 9, 2) := by decide +kernel
theorem dX9_held_18 : decode cX9_held 18 = .ok (.invokevirtual 200, 3) := by decide +kernel
theorem dX9_held_21 : decode cX9_held 21 = .ok (.istore_n 3, 1) := by decide +kernel
theorem dX9_held_22 : decode cX9_held 22 = .ok (.iconst 0, 1) := by decide +kernel
theorem dX9_held_23 : decode cX9_held 23 = .ok (.istore 4, 2) := by decide +kernel
theorem dX9_held_25 : decode cX9_held 25 = .ok (.iload 4, 2) := by decide +kernel
theorem dX9_held_27 : decode cX9_held 27 = .ok (.aload_n 0, 1) := by decide +kernel
theorem dX9_held_28 : decode cX9_held 28 = .ok (.getfield 10, 3) := by decide +kernel
theorem dX9_held_31 : decode cX9_held 31 = .ok (.getfield 91, 3) := by decide +kernel
theorem dX9_held_34 : decode cX9_held 34 = .ok (.if_icmp .ge 32, 3) := by decide +kernel
theorem dX9_held_37 : decode cX9_held 37 = .ok (.aload_n 0, 1) := by decide +kernel
theorem dX9_held_38 : decode cX9_held 38 = .ok (.getfield 43, 3) := by decide +kernel
theorem dX9_held_41 : decode cX9_held 41 = .ok (.iload 4, 2) := by decide +kernel
theorem dX9_held_43 : decode cX9_held 43 = .ok (.invokevirtual 200, 3) := by decide +kernel
theorem dX9_held_46 : decode cX9_held 46 = .ok (.istore 5, 2) := by decide +kernel
theorem dX9_held_48 : decode cX9_held 48 = .ok (.iload 5, 2) := by decide +kernel
theorem dX9_held_50 : decode cX9_held 50 = .ok (.iload_n 3, 1) := by decide +kernel
theorem dX9_held_51 : decode cX9_held 51 = .ok (.if_icmp .ge 9, 3) := by decide +kernel
theorem dX9_held_54 : decode cX9_held 54 = .ok (.iload 5, 2) := by decide +kernel
theorem dX9_held_56 : decode cX9_held 56 = .ok (.istore_n 3, 1) := by decide +kernel
theorem dX9_held_57 : decode cX9_held 57 = .ok (.iload 4, 2) := by decide +kernel
theorem dX9_held_59 : decode cX9_held 59 = .ok (.istore_n 2, 1) := by decide +kernel
theorem dX9_held_60 : decode cX9_held 60 = .ok (.iinc 4 1, 3) := by decide +kernel
theorem dX9_held_63 : decode cX9_held 63 = .ok (.goto (-38), 3) := by decide +kernel
theorem dX9_held_66 : decode cX9_held 66 = .ok (.iload_n 1, 1) := by decide +kernel
theorem dX9_held_67 : decode cX9_held 67 = .ok (.ifCond .ne 7, 3) := by decide +kernel
theorem dX9_held_70 : decode cX9_held 70 = .ok (.iload_n 2, 1) := by decide +kernel
theorem dX9_held_71 : decode cX9_held 71 = .ok (.goto 4, 3) := by decide +kernel
theorem dX9_held_74 : decode cX9_held 74 = .ok (.iload_n 3, 1) := by decide +kernel
theorem dX9_held_75 : decode cX9_held 75 = .ok (.ireturn, 1) := by decide +kernel
theorem dX9_pairs_0 : decode cX9_pairs 0 = .ok (.iload_n 1, 1) := by decide +kernel
theorem dX9_pairs_1 : decode cX9_pairs 1 = .ok (.ifCond .lt 8, 3) := by decide +kernel
theorem dX9_pairs_4 : decode cX9_pairs 4 = .ok (.iload_n 1, 1) := by decide +kernel
theorem dX9_pairs_5 : decode cX9_pairs 5 = .ok (.iconst 2, 1) := by decide +kernel
theorem dX9_pairs_6 : decode cX9_pairs 6 = .ok (.if_icmp .le 5, 3) := by decide +kernel
theorem dX9_pairs_9 : decode cX9_pairs 9 = .ok (.iconst (-1), 1) := by decide +kernel
theorem dX9_pairs_10 : decode cX9_pairs 10 = .ok (.ireturn, 1) := by decide +kernel
theorem dX9_pairs_11 : decode cX9_pairs 11 = .ok (.iconst 0, 1) := by decide +kernel
theorem dX9_pairs_12 : decode cX9_pairs 12 = .ok (.istore_n 2, 1) := by decide +kernel
theorem dX9_pairs_13 : decode cX9_pairs 13 = .ok (.bipush (-2), 2) := by decide +kernel
theorem dX9_pairs_15 : decode cX9_pairs 15 = .ok (.istore_n 3, 1) := by decide +kernel
theorem dX9_pairs_16 : decode cX9_pairs 16 = .ok (.getstatic 203, 3) := by decide +kernel
theorem dX9_pairs_19 : decode cX9_pairs 19 = .ok (.iconst 4, 1) := by decide +kernel
theorem dX9_pairs_20 : decode cX9_pairs 20 = .ok (.iaload, 1) := by decide +kernel
theorem dX9_pairs_21 : decode cX9_pairs 21 = .ok (.istore 4, 2) := by decide +kernel
theorem dX9_pairs_23 : decode cX9_pairs 23 = .ok (.iload 4, 2) := by decide +kernel
theorem dX9_pairs_25 : decode cX9_pairs 25 = .ok (.getstatic 206, 3) := by decide +kernel
theorem dX9_pairs_28 : decode cX9_pairs 28 = .ok (.iconst 4, 1) := by decide +kernel
theorem dX9_pairs_29 : decode cX9_pairs 29 = .ok (.iaload, 1) := by decide +kernel
theorem dX9_pairs_30 : decode cX9_pairs 30 = .ok (.if_icmp .lt 53, 3) := by decide +kernel
theorem dX9_pairs_33 : decode cX9_pairs 33 = .ok (.aload_n 0, 1) := by decide +kernel
theorem dX9_pairs_34 : decode cX9_pairs 34 = .ok (.getfield 10, 3) := by decide +kernel
theorem dX9_pairs_37 : decode cX9_pairs 37 = .ok (.iconst 0, 1) := by decide +kernel
theorem dX9_pairs_38 : decode cX9_pairs 38 = .ok (.iload 4, 2) := by decide +kernel
theorem dX9_pairs_40 : decode cX9_pairs 40 = .ok (.invokevirtual 209, 3) := by decide +kernel
theorem dX9_pairs_43 : decode cX9_pairs 43 = .ok (.istore 5, 2) := by decide +kernel
theorem dX9_pairs_45 : decode cX9_pairs 45 = .ok (.aload_n 0, 1) := by decide +kernel
theorem dX9_pairs_46 : decode cX9_pairs 46 = .ok (.getfield 10, 3) := by decide +kernel
theorem dX9_pairs_49 : decode cX9_pairs 49 = .ok (.iconst 1, 1) := by decide +kernel
theorem dX9_pairs_50 : decode cX9_pairs 50 = .ok (.iload 4, 2) := by decide +kernel
theorem dX9_pairs_52 : decode cX9_pairs 52 = .ok (.invokevirtual 209, 3) := by decide +kernel
theorem dX9_pairs_55 : decode cX9_pairs 55 = .ok (.istore 6, 2) := by decide +kernel
theorem dX9_pairs_57 : decode cX9_pairs 57 = .ok (.iload_n 2, 1) := by decide +kernel
theorem dX9_pairs_58 : decode cX9_pairs 58 = .ok (.iload 5, 2) := by decide +kernel
theorem dX9_pairs_60 : decode cX9_pairs 60 = .ok (.iload 6, 2) := by decide +kernel
theorem dX9_pairs_62 : decode cX9_pairs 62 = .ok (.invokestatic 212, 3) := by decide +kernel
theorem dX9_pairs_65 : decode cX9_pairs 65 = .ok (.iadd, 1) := by decide +kernel
theorem dX9_pairs_66 : decode cX9_pairs 66 = .ok (.istore_n 2, 1) := by decide +kernel
theorem dX9_pairs_67 : decode cX9_pairs 67 = .ok (.iload 5, 2) := by decide +kernel
theorem dX9_pairs_69 : decode cX9_pairs 69 = .ok (.iload 6, 2) := by decide +kernel
theorem dX9_pairs_71 : decode cX9_pairs 71 = .ok (.if_icmp .eq 6, 3) := by decide +kernel
theorem dX9_pairs_74 : decode cX9_pairs 74 = .ok (.iload 4, 2) := by decide +kernel
theorem dX9_pairs_76 : decode cX9_pairs 76 = .ok (.istore_n 3, 1) := by decide +kernel
theorem dX9_pairs_77 : decode cX9_pairs 77 = .ok (.iinc 4 (-1), 3) := by decide +kernel
theorem dX9_pairs_80 : decode cX9_pairs 80 = .ok (.goto (-57), 3) := by decide +kernel
theorem dX9_pairs_83 : decode cX9_pairs 83 = .ok (.iload_n 1, 1) := by decide +kernel
theorem dX9_pairs_84 : decode cX9_pairs 84 = .ok (.ifCond .ne 5, 3) := by decide +kernel
theorem dX9_pairs_87 : decode cX9_pairs 87 = .ok (.iload_n 2, 1) := by decide +kernel
theorem dX9_pairs_88 : decode cX9_pairs 88 = .ok (.ireturn, 1) := by decide +kernel
theorem dX9_pairs_89 : decode cX9_pairs 89 = .ok (.iload_n 1, 1) := by decide +kernel
theorem dX9_pairs_90 : decode cX9_pairs 90 = .ok (.iconst 1, 1) := by decide +kernel
theorem dX9_pairs_91 : decode cX9_pairs 91 = .ok (.if_icmp .ne 17, 3) := by decide +kernel
theorem dX9_pairs_94 : decode cX9_pairs 94 = .ok (.aload_n 0, 1) := by decide +kernel
theorem dX9_pairs_95 : decode cX9_pairs 95 = .ok (.getfield 10, 3) := by decide +kernel
theorem dX9_pairs_98 : decode cX9_pairs 98 = .ok (.invokevirtual 189, 3) := by decide +kernel
theorem dX9_pairs_101 : decode cX9_pairs 101 = .ok (.iconst 2, 1) := by decide +kernel
theorem dX9_pairs_102 : decode cX9_pairs 102 = .ok (.iload_n 2, 1) := by decide +kernel
theorem dX9_pairs_103 : decode cX9_pairs 103 = .ok (.imul, 1) := by decide +kernel
theorem dX9_pairs_104 : decode cX9_pairs 104 = .ok (.isub, 1) := by decide +kernel
theorem dX9_pairs_105 : decode cX9_pairs 105 = .ok (.goto 4, 3) := by decide +kernel
theorem dX9_pairs_108 : decode cX9_pairs 108 = .ok (.iload_n 3, 1) := by decide +kernel
theorem dX9_pairs_109 : decode cX9_pairs 109 = .ok (.ireturn, 1) := by decide +kernel
theorem dX9_judge_0 : decode cX9_judge 0 = .ok (.iload_n 1, 1) := by decide +kernel
theorem dX9_judge_1 : decode cX9_judge 1 = .ok (.invokestatic 98, 3) := by decide +kernel
theorem dX9_judge_4 : decode cX9_judge 4 = .ok (.ifCond .ne 5, 3) := by decide +kernel
theorem dX9_judge_7 : decode cX9_judge 7 = .ok (.iconst (-1), 1) := by decide +kernel
theorem dX9_judge_8 : decode cX9_judge 8 = .ok (.ireturn, 1) := by decide +kernel
theorem dX9_judge_9 : decode cX9_judge 9 = .ok (.aload_n 0, 1) := by decide +kernel
theorem dX9_judge_10 : decode cX9_judge 10 = .ok (.getfield 82, 3) := by decide +kernel
theorem dX9_judge_13 : decode cX9_judge 13 = .ok (.iload_n 1, 1) := by decide +kernel
theorem dX9_judge_14 : decode cX9_judge 14 = .ok (.aaload, 1) := by decide +kernel
theorem dX9_judge_15 : decode cX9_judge 15 = .ok (.invokestatic 217, 3) := by decide +kernel
theorem dX9_judge_18 : decode cX9_judge 18 = .ok (.istore_n 2, 1) := by decide +kernel
theorem dX9_judge_19 : decode cX9_judge 19 = .ok (.iload_n 2, 1) := by decide +kernel
theorem dX9_judge_20 : decode cX9_judge 20 = .ok (.ifCond .eq 5, 3) := by decide +kernel
theorem dX9_judge_23 : decode cX9_judge 23 = .ok (.iload_n 2, 1) := by decide +kernel
theorem dX9_judge_24 : decode cX9_judge 24 = .ok (.ireturn, 1) := by decide +kernel
theorem dX9_judge_25 : decode cX9_judge 25 = .ok (.aload_n 0, 1) := by decide +kernel
theorem dX9_judge_26 : decode cX9_judge 26 = .ok (.getfield 43, 3) := by decide +kernel
theorem dX9_judge_29 : decode cX9_judge 29 = .ok (.iconst 0, 1) := by decide +kernel
theorem dX9_judge_30 : decode cX9_judge 30 = .ok (.invokevirtual 149, 3) := by decide +kernel
theorem dX9_judge_33 : decode cX9_judge 33 = .ok (.aload_n 0, 1) := by decide +kernel
theorem dX9_judge_34 : decode cX9_judge 34 = .ok (.getfield 43, 3) := by decide +kernel
theorem dX9_judge_37 : decode cX9_judge 37 = .ok (.bipush 9, 2) := by decide +kernel
theorem dX9_judge_39 : decode cX9_judge 39 = .ok (.invokevirtual 173, 3) := by decide +kernel
theorem dX9_judge_42 : decode cX9_judge 42 = .ok (.aload_n 0, 1) := by decide +kernel
theorem dX9_judge_43 : decode cX9_judge 43 = .ok (.getfield 43, 3) := by decide +kernel
theorem dX9_judge_46 : decode cX9_judge 46 = .ok (.aload_n 0, 1) := by decide +kernel
theorem dX9_judge_47 : decode cX9_judge 47 = .ok (.getfield 82, 3) := by decide +kernel
theorem dX9_judge_50 : decode cX9_judge 50 = .ok (.iload_n 1, 1) := by decide +kernel
theorem dX9_judge_51 : decode cX9_judge 51 = .ok (.aaload, 1) := by decide +kernel
theorem dX9_judge_52 : decode cX9_judge 52 = .ok (.invokevirtual 221, 3) := by decide +kernel
theorem dX9_judge_55 : decode cX9_judge 55 = .ok (.ireturn, 1) := by decide +kernel
theorem dX9_fits_0 : decode cX9_fits 0 = .ok (.iload_n 1, 1) := by decide +kernel
theorem dX9_fits_1 : decode cX9_fits 1 = .ok (.invokestatic 98, 3) := by decide +kernel
theorem dX9_fits_4 : decode cX9_fits 4 = .ok (.ifCond .eq 23, 3) := by decide +kernel
theorem dX9_fits_7 : decode cX9_fits 7 = .ok (.aload_n 0, 1) := by decide +kernel
theorem dX9_fits_8 : decode cX9_fits 8 = .ok (.getfield 10, 3) := by decide +kernel
theorem dX9_fits_11 : decode cX9_fits 11 = .ok (.iload_n 2, 1) := by decide +kernel
theorem dX9_fits_12 : decode cX9_fits 12 = .ok (.invokevirtual 114, 3) := by decide +kernel
theorem dX9_fits_15 : decode cX9_fits 15 = .ok (.ifCond .eq 12, 3) := by decide +kernel
theorem dX9_fits_18 : decode cX9_fits 18 = .ok (.iload_n 3, 1) := by decide +kernel
theorem dX9_fits_19 : decode cX9_fits 19 = .ok (.ifCond .lt 8, 3) := by decide +kernel
theorem dX9_fits_22 : decode cX9_fits 22 = .ok (.iload_n 3, 1) := by decide +kernel
theorem dX9_fits_23 : decode cX9_fits 23 = .ok (.iconst 5, 1) := by decide +kernel
theorem dX9_fits_24 : decode cX9_fits 24 = .ok (.if_icmp .le 5, 3) := by decide +kernel
theorem dX9_fits_27 : decode cX9_fits 27 = .ok (.iconst (-1), 1) := by decide +kernel
theorem dX9_fits_28 : decode cX9_fits 28 = .ok (.ireturn, 1) := by decide +kernel
theorem dX9_fits_29 : decode cX9_fits 29 = .ok (.aload_n 0, 1) := by decide +kernel
theorem dX9_fits_30 : decode cX9_fits 30 = .ok (.getfield 82, 3) := by decide +kernel
theorem dX9_fits_33 : decode cX9_fits 33 = .ok (.iload_n 1, 1) := by decide +kernel
theorem dX9_fits_34 : decode cX9_fits 34 = .ok (.aaload, 1) := by decide +kernel
theorem dX9_fits_35 : decode cX9_fits 35 = .ok (.invokestatic 217, 3) := by decide +kernel
theorem dX9_fits_38 : decode cX9_fits 38 = .ok (.istore 4, 2) := by decide +kernel
theorem dX9_fits_40 : decode cX9_fits 40 = .ok (.iload 4, 2) := by decide +kernel
theorem dX9_fits_42 : decode cX9_fits 42 = .ok (.ifCond .eq 6, 3) := by decide +kernel
theorem dX9_fits_45 : decode cX9_fits 45 = .ok (.iload 4, 2) := by decide +kernel
theorem dX9_fits_47 : decode cX9_fits 47 = .ok (.ireturn, 1) := by decide +kernel
theorem dX9_fits_48 : decode cX9_fits 48 = .ok (.iload_n 3, 1) := by decide +kernel
theorem dX9_fits_49 : decode cX9_fits 49 = .ok (.iconst 2, 1) := by decide +kernel
theorem dX9_fits_50 : decode cX9_fits 50 = .ok (.if_icmp .ge 7, 3) := by decide +kernel
theorem dX9_fits_53 : decode cX9_fits 53 = .ok (.iconst 2, 1) := by decide +kernel
theorem dX9_fits_54 : decode cX9_fits 54 = .ok (.goto 13, 3) := by decide +kernel
theorem dX9_fits_57 : decode cX9_fits 57 = .ok (.iload_n 3, 1) := by decide +kernel
theorem dX9_fits_58 : decode cX9_fits 58 = .ok (.iconst 4, 1) := by decide +kernel
theorem dX9_fits_59 : decode cX9_fits 59 = .ok (.if_icmp .ge 7, 3) := by decide +kernel
theorem dX9_fits_62 : decode cX9_fits 62 = .ok (.iconst 1, 1) := by decide +kernel
theorem dX9_fits_63 : decode cX9_fits 63 = .ok (.goto 4, 3) := by decide +kernel
theorem dX9_fits_66 : decode cX9_fits 66 = .ok (.iconst 0, 1) := by decide +kernel
theorem dX9_fits_67 : decode cX9_fits 67 = .ok (.istore 5, 2) := by decide +kernel
theorem dX9_fits_69 : decode cX9_fits 69 = .ok (.iconst 0, 1) := by decide +kernel
theorem dX9_fits_70 : decode cX9_fits 70 = .ok (.istore 6, 2) := by decide +kernel
theorem dX9_fits_72 : decode cX9_fits 72 = .ok (.bipush (-2), 2) := by decide +kernel
theorem dX9_fits_74 : decode cX9_fits 74 = .ok (.istore 7, 2) := by decide +kernel
theorem dX9_fits_76 : decode cX9_fits 76 = .ok (.getstatic 203, 3) := by decide +kernel
theorem dX9_fits_79 : decode cX9_fits 79 = .ok (.iload 5, 2) := by decide +kernel
theorem dX9_fits_81 : decode cX9_fits 81 = .ok (.iaload, 1) := by decide +kernel
theorem dX9_fits_82 : decode cX9_fits 82 = .ok (.istore 8, 2) := by decide +kernel
theorem dX9_fits_84 : decode cX9_fits 84 = .ok (.iload 8, 2) := by decide +kernel
theorem dX9_fits_86 : decode cX9_fits 86 = .ok (.ifCond .lt 66, 3) := by decide +kernel
theorem dX9_fits_89 : decode cX9_fits 89 = .ok (.aload_n 0, 1) := by decide +kernel
theorem dX9_fits_90 : decode cX9_fits 90 = .ok (.getfield 43, 3) := by decide +kernel
theorem dX9_fits_93 : decode cX9_fits 93 = .ok (.iconst 0, 1) := by decide +kernel
theorem dX9_fits_94 : decode cX9_fits 94 = .ok (.invokevirtual 149, 3) := by decide +kernel
theorem dX9_fits_97 : decode cX9_fits 97 = .ok (.aload_n 0, 1) := by decide +kernel
theorem dX9_fits_98 : decode cX9_fits 98 = .ok (.getfield 43, 3) := by decide +kernel
theorem dX9_fits_101 : decode cX9_fits 101 = .ok (.getfield 153, 3) := by decide +kernel
theorem dX9_fits_104 : decode cX9_fits 104 = .ok (.iload_n 2, 1) := by decide +kernel
theorem dX9_fits_105 : decode cX9_fits 105 = .ok (.iload 5, 2) := by decide +kernel
theorem dX9_fits_107 : decode cX9_fits 107 = .ok (.iload 8, 2) := by decide +kernel
theorem dX9_fits_109 : decode cX9_fits 109 = .ok (.invokevirtual 130, 3) := by decide +kernel
theorem dX9_fits_112 : decode cX9_fits 112 = .ok (.aload_n 0, 1) := by decide +kernel
theorem dX9_fits_113 : decode cX9_fits 113 = .ok (.getfield 43, 3) := by decide +kernel
theorem dX9_fits_116 : decode cX9_fits 116 = .ok (.bipush 9, 2) := by decide +kernel
theorem dX9_fits_118 : decode cX9_fits 118 = .ok (.invokevirtual 173, 3) := by decide +kernel
theorem dX9_fits_121 : decode cX9_fits 121 = .ok (.aload_n 0, 1) := by decide +kernel
theorem dX9_fits_122 : decode cX9_fits 122 = .ok (.getfield 43, 3) := by decide +kernel
theorem dX9_fits_125 : decode cX9_fits 125 = .ok (.aload_n 0, 1) := by decide +kernel
theorem dX9_fits_126 : decode cX9_fits 126 = .ok (.getfield 82, 3) := by decide +kernel
theorem dX9_fits_129 : decode cX9_fits 129 = .ok (.iload_n 1, 1) := by decide +kernel
theorem dX9_fits_130 : decode cX9_fits 130 = .ok (.aaload, 1) := by decide +kernel
theorem dX9_fits_131 : decode cX9_fits 131 = .ok (.invokevirtual 221, 3) := by decide +kernel
theorem dX9_fits_134 : decode cX9_fits 134 = .ok (.bipush (-2), 2) := by decide +kernel
theorem dX9_fits_136 : decode cX9_fits 136 = .ok (.if_icmp .ne 10, 3) := by decide +kernel
theorem dX9_fits_139 : decode cX9_fits 139 = .ok (.iinc 6 1, 3) := by decide +kernel
theorem dX9_fits_142 : decode cX9_fits 142 = .ok (.iload 8, 2) := by decide +kernel
theorem dX9_fits_144 : decode cX9_fits 144 = .ok (.istore 7, 2) := by decide +kernel
theorem dX9_fits_146 : decode cX9_fits 146 = .ok (.iinc 8 (-1), 3) := by decide +kernel
theorem dX9_fits_149 : decode cX9_fits 149 = .ok (.goto (-65), 3) := by decide +kernel
theorem dX9_fits_152 : decode cX9_fits 152 = .ok (.iload_n 3, 1) := by decide +kernel
theorem dX9_fits_153 : decode cX9_fits 153 = .ok (.iconst 2, 1) := by decide +kernel
theorem dX9_fits_154 : decode cX9_fits 154 = .ok (.irem, 1) := by decide +kernel
theorem dX9_fits_155 : decode cX9_fits 155 = .ok (.ifCond .ne 8, 3) := by decide +kernel
theorem dX9_fits_158 : decode cX9_fits 158 = .ok (.iload 6, 2) := by decide +kernel
theorem dX9_fits_160 : decode cX9_fits 160 = .ok (.goto 5, 3) := by decide +kernel
theorem dX9_fits_163 : decode cX9_fits 163 = .ok (.iload 7, 2) := by decide +kernel
theorem dX9_fits_165 : decode cX9_fits 165 = .ok (.ireturn, 1) := by decide +kernel
theorem dX9_upside_0 : decode cX9_upside 0 = .ok (.iload_n 1, 1) := by decide +kernel
theorem dX9_upside_1 : decode cX9_upside 1 = .ok (.invokestatic 167, 3) := by decide +kernel
theorem dX9_upside_4 : decode cX9_upside 4 = .ok (.ifCond .ne 5, 3) := by decide +kernel
theorem dX9_upside_7 : decode cX9_upside 7 = .ok (.iconst (-1), 1) := by decide +kernel
theorem dX9_upside_8 : decode cX9_upside 8 = .ok (.ireturn, 1) := by decide +kernel
theorem dX9_upside_9 : decode cX9_upside 9 = .ok (.iconst 0, 1) := by decide +kernel
theorem dX9_upside_10 : decode cX9_upside 10 = .ok (.istore_n 2, 1) := by decide +kernel
theorem dX9_upside_11 : decode cX9_upside 11 = .ok (.iconst 0, 1) := by decide +kernel
theorem dX9_upside_12 : decode cX9_upside 12 = .ok (.istore_n 3, 1) := by decide +kernel
theorem dX9_upside_13 : decode cX9_upside 13 = .ok (.iconst 0, 1) := by decide +kernel
theorem dX9_upside_14 : decode cX9_upside 14 = .ok (.istore 4, 2) := by decide +kernel
theorem dX9_upside_16 : decode cX9_upside 16 = .ok (.iload 4, 2) := by decide +kernel
theorem dX9_upside_18 : decode cX9_upside 18 = .ok (.aload_n 0, 1) := by decide +kernel
theorem dX9_upside_19 : decode cX9_upside 19 = .ok (.getfield 10, 3) := by decide +kernel
theorem dX9_upside_22 : decode cX9_upside 22 = .ok (.getfield 91, 3) := by decide +kernel
theorem dX9_upside_25 : decode cX9_upside 25 = .ok (.if_icmp .ge 160, 3) := by decide +kernel
theorem dX9_upside_28 : decode cX9_upside 28 = .ok (.iload 4, 2) := by decide +kernel
theorem dX9_upside_30 : decode cX9_upside 30 = .ok (.iconst 1, 1) := by decide +kernel
theorem dX9_upside_31 : decode cX9_upside 31 = .ok (.iadd, 1) := by decide +kernel
theorem dX9_upside_32 : decode cX9_upside 32 = .ok (.istore 5, 2) := by decide +kernel
theorem dX9_upside_34 : decode cX9_upside 34 = .ok (.iload 5, 2) := by decide +kernel
theorem dX9_upside_36 : decode cX9_upside 36 = .ok (.aload_n 0, 1) := by decide +kernel
theorem dX9_upside_37 : decode cX9_upside 37 = .ok (.getfield 10, 3) := by decide +kernel
theorem dX9_upside_40 : decode cX9_upside 40 = .ok (.getfield 91, 3) := by decide +kernel
theorem dX9_upside_43 : decode cX9_upside 43 = .ok (.if_icmp .ge 136, 3) := by decide +kernel
theorem dX9_upside_46 : decode cX9_upside 46 = .ok (.aload_n 0, 1) := by decide +kernel
theorem dX9_upside_47 : decode cX9_upside 47 = .ok (.getfield 10, 3) := by decide +kernel
theorem dX9_upside_50 : decode cX9_upside 50 = .ok (.iload 4, 2) := by decide +kernel
theorem dX9_upside_52 : decode cX9_upside 52 = .ok (.invokevirtual 182, 3) := by decide +kernel
theorem dX9_upside_55 : decode cX9_upside 55 = .ok (.ifCond .eq 118, 3) := by decide +kernel
theorem dX9_upside_58 : decode cX9_upside 58 = .ok (.aload_n 0, 1) := by decide +kernel
theorem dX9_upside_59 : decode cX9_upside 59 = .ok (.getfield 10, 3) := by decide +kernel
theorem dX9_upside_62 : decode cX9_upside 62 = .ok (.iload 5, 2) := by decide +kernel
theorem dX9_upside_64 : decode cX9_upside 64 = .ok (.invokevirtual 182, 3) := by decide +kernel
theorem dX9_upside_67 : decode cX9_upside 67 = .ok (.ifCond .eq 106, 3) := by decide +kernel
theorem dX9_upside_70 : decode cX9_upside 70 = .ok (.aload_n 0, 1) := by decide +kernel
theorem dX9_upside_71 : decode cX9_upside 71 = .ok (.getfield 34, 3) := by decide +kernel
theorem dX9_upside_74 : decode cX9_upside 74 = .ok (.aload_n 0, 1) := by decide +kernel
theorem dX9_upside_75 : decode cX9_upside 75 = .ok (.getfield 10, 3) := by decide +kernel
theorem dX9_upside_78 : decode cX9_upside 78 = .ok (.iload 4, 2) := by decide +kernel
theorem dX9_upside_80 : decode cX9_upside 80 = .ok (.invokevirtual 154, 3) := by decide +kernel
theorem dX9_upside_83 : decode cX9_upside 83 = .ok (.aload_n 0, 1) := by decide +kernel
theorem dX9_upside_84 : decode cX9_upside 84 = .ok (.getfield 34, 3) := by decide +kernel
theorem dX9_upside_87 : decode cX9_upside 87 = .ok (.aload_n 0, 1) := by decide +kernel
theorem dX9_upside_88 : decode cX9_upside 88 = .ok (.getfield 10, 3) := by decide +kernel
theorem dX9_upside_91 : decode cX9_upside 91 = .ok (.iload 5, 2) := by decide +kernel
theorem dX9_upside_93 : decode cX9_upside 93 = .ok (.invokevirtual 154, 3) := by decide +kernel
theorem dX9_upside_96 : decode cX9_upside 96 = .ok (.isub, 1) := by decide +kernel
theorem dX9_upside_97 : decode cX9_upside 97 = .ok (.istore 6, 2) := by decide +kernel
theorem dX9_upside_99 : decode cX9_upside 99 = .ok (.iload 6, 2) := by decide +kernel
theorem dX9_upside_101 : decode cX9_upside 101 = .ok (.ifCond .lt 7, 3) := by decide +kernel
theorem dX9_upside_104 : decode cX9_upside 104 = .ok (.iconst 1, 1) := by decide +kernel
theorem dX9_upside_105 : decode cX9_upside 105 = .ok (.goto 4, 3) := by decide +kernel
theorem dX9_upside_108 : decode cX9_upside 108 = .ok (.iconst 0, 1) := by decide +kernel
theorem dX9_upside_109 : decode cX9_upside 109 = .ok (.istore 7, 2) := by decide +kernel
theorem dX9_upside_111 : decode cX9_upside 111 = .ok (.iload_n 3, 1) := by decide +kernel
theorem dX9_upside_112 : decode cX9_upside 112 = .ok (.iload 6, 2) := by decide +kernel
theorem dX9_upside_114 : decode cX9_upside 114 = .ok (.ifCond .ne 7, 3) := by decide +kernel
theorem dX9_upside_117 : decode cX9_upside 117 = .ok (.iconst 1, 1) := by decide +kernel
theorem dX9_upside_118 : decode cX9_upside 118 = .ok (.goto 4, 3) := by decide +kernel
theorem dX9_upside_121 : decode cX9_upside 121 = .ok (.iconst 0, 1) := by decide +kernel
theorem dX9_upside_122 : decode cX9_upside 122 = .ok (.iadd, 1) := by decide +kernel
theorem dX9_upside_123 : decode cX9_upside 123 = .ok (.istore_n 3, 1) := by decide +kernel
theorem dX9_upside_124 : decode cX9_upside 124 = .ok (.aload_n 0, 1) := by decide +kernel
theorem dX9_upside_125 : decode cX9_upside 125 = .ok (.getfield 10, 3) := by decide +kernel
theorem dX9_upside_128 : decode cX9_upside 128 = .ok (.getfield 158, 3) := by decide +kernel
theorem dX9_upside_131 : decode cX9_upside 131 = .ok (.iload 4, 2) := by decide +kernel
theorem dX9_upside_133 : decode cX9_upside 133 = .ok (.iaload, 1) := by decide +kernel
theorem dX9_upside_134 : decode cX9_upside 134 = .ok (.aload_n 0, 1) := by decide +kernel
theorem dX9_upside_135 : decode cX9_upside 135 = .ok (.getfield 10, 3) := by decide +kernel
theorem dX9_upside_138 : decode cX9_upside 138 = .ok (.getfield 158, 3) := by decide +kernel
theorem dX9_upside_141 : decode cX9_upside 141 = .ok (.iload 5, 2) := by decide +kernel
theorem dX9_upside_143 : decode cX9_upside 143 = .ok (.iaload, 1) := by decide +kernel
theorem dX9_upside_144 : decode cX9_upside 144 = .ok (.isub, 1) := by decide +kernel
theorem dX9_upside_145 : decode cX9_upside 145 = .ok (.istore 8, 2) := by decide +kernel
theorem dX9_upside_147 : decode cX9_upside 147 = .ok (.iload_n 2, 1) := by decide +kernel
theorem dX9_upside_148 : decode cX9_upside 148 = .ok (.iload 7, 2) := by decide +kernel
theorem dX9_upside_150 : decode cX9_upside 150 = .ok (.ifCond .eq 11, 3) := by decide +kernel
theorem dX9_upside_153 : decode cX9_upside 153 = .ok (.iload 8, 2) := by decide +kernel
theorem dX9_upside_155 : decode cX9_upside 155 = .ok (.ifCond .ge 15, 3) := by decide +kernel
theorem dX9_upside_158 : decode cX9_upside 158 = .ok (.goto 8, 3) := by decide +kernel
theorem dX9_upside_161 : decode cX9_upside 161 = .ok (.iload 8, 2) := by decide +kernel
theorem dX9_upside_163 : decode cX9_upside 163 = .ok (.ifCond .le 7, 3) := by decide +kernel
theorem dX9_upside_166 : decode cX9_upside 166 = .ok (.iconst 1, 1) := by decide +kernel
theorem dX9_upside_167 : decode cX9_upside 167 = .ok (.goto 4, 3) := by decide +kernel
theorem dX9_upside_170 : decode cX9_upside 170 = .ok (.iconst 0, 1) := by decide +kernel
theorem dX9_upside_171 : decode cX9_upside 171 = .ok (.iadd, 1) := by decide +kernel
theorem dX9_upside_172 : decode cX9_upside 172 = .ok (.istore_n 2, 1) := by decide +kernel
theorem dX9_upside_173 : decode cX9_upside 173 = .ok (.iinc 5 1, 3) := by decide +kernel
theorem dX9_upside_176 : decode cX9_upside 176 = .ok (.goto (-142), 3) := by decide +kernel
theorem dX9_upside_179 : decode cX9_upside 179 = .ok (.iinc 4 1, 3) := by decide +kernel
theorem dX9_upside_182 : decode cX9_upside 182 = .ok (.goto (-166), 3) := by decide +kernel
theorem dX9_upside_185 : decode cX9_upside 185 = .ok (.iload_n 1, 1) := by decide +kernel
theorem dX9_upside_186 : decode cX9_upside 186 = .ok (.ifCond .ne 7, 3) := by decide +kernel
theorem dX9_upside_189 : decode cX9_upside 189 = .ok (.iload_n 2, 1) := by decide +kernel
theorem dX9_upside_190 : decode cX9_upside 190 = .ok (.goto 4, 3) := by decide +kernel
theorem dX9_upside_193 : decode cX9_upside 193 = .ok (.iload_n 3, 1) := by decide +kernel
theorem dX9_upside_194 : decode cX9_upside 194 = .ok (.ireturn, 1) := by decide +kernel
theorem dX9_byTurns_0 : decode cX9_byTurns 0 = .ok (.iload_n 1, 1) := by decide +kernel
theorem dX9_byTurns_1 : decode cX9_byTurns 1 = .ok (.bipush 10, 2) := by decide +kernel
theorem dX9_byTurns_3 : decode cX9_byTurns 3 = .ok (.idiv, 1) := by decide +kernel
theorem dX9_byTurns_4 : decode cX9_byTurns 4 = .ok (.istore 4, 2) := by decide +kernel
theorem dX9_byTurns_6 : decode cX9_byTurns 6 = .ok (.iload_n 1, 1) := by decide +kernel
theorem dX9_byTurns_7 : decode cX9_byTurns 7 = .ok (.bipush 10, 2) := by decide +kernel
theorem dX9_byTurns_9 : decode cX9_byTurns 9 = .ok (.irem, 1) := by decide +kernel
theorem dX9_byTurns_10 : decode cX9_byTurns 10 = .ok (.istore 5, 2) := by decide +kernel
theorem dX9_byTurns_12 : decode cX9_byTurns 12 = .ok (.aload_n 0, 1) := by decide +kernel
theorem dX9_byTurns_13 : decode cX9_byTurns 13 = .ok (.getfield 10, 3) := by decide +kernel
theorem dX9_byTurns_16 : decode cX9_byTurns 16 = .ok (.iload 4, 2) := by decide +kernel
theorem dX9_byTurns_18 : decode cX9_byTurns 18 = .ok (.invokevirtual 182, 3) := by decide +kernel
theorem dX9_byTurns_21 : decode cX9_byTurns 21 = .ok (.ifCond .eq 39, 3) := by decide +kernel
theorem dX9_byTurns_24 : decode cX9_byTurns 24 = .ok (.aload_n 0, 1) := by decide +kernel
theorem dX9_byTurns_25 : decode cX9_byTurns 25 = .ok (.getfield 10, 3) := by decide +kernel
theorem dX9_byTurns_28 : decode cX9_byTurns 28 = .ok (.iload 5, 2) := by decide +kernel
theorem dX9_byTurns_30 : decode cX9_byTurns 30 = .ok (.invokevirtual 182, 3) := by decide +kernel
theorem dX9_byTurns_33 : decode cX9_byTurns 33 = .ok (.ifCond .eq 27, 3) := by decide +kernel
theorem dX9_byTurns_36 : decode cX9_byTurns 36 = .ok (.iload 4, 2) := by decide +kernel
theorem dX9_byTurns_38 : decode cX9_byTurns 38 = .ok (.iload 5, 2) := by decide +kernel
theorem dX9_byTurns_40 : decode cX9_byTurns 40 = .ok (.if_icmp .eq 20, 3) := by decide +kernel
theorem dX9_byTurns_43 : decode cX9_byTurns 43 = .ok (.iload_n 2, 1) := by decide +kernel
theorem dX9_byTurns_44 : decode cX9_byTurns 44 = .ok (.iconst 1, 1) := by decide +kernel
theorem dX9_byTurns_45 : decode cX9_byTurns 45 = .ok (.if_icmp .lt 15, 3) := by decide +kernel
theorem dX9_byTurns_48 : decode cX9_byTurns 48 = .ok (.iload_n 2, 1) := by decide +kernel
theorem dX9_byTurns_49 : decode cX9_byTurns 49 = .ok (.iconst 5, 1) := by decide +kernel
theorem dX9_byTurns_50 : decode cX9_byTurns 50 = .ok (.if_icmp .gt 10, 3) := by decide +kernel
theorem dX9_byTurns_53 : decode cX9_byTurns 53 = .ok (.iload_n 3, 1) := by decide +kernel
theorem dX9_byTurns_54 : decode cX9_byTurns 54 = .ok (.invokestatic 167, 3) := by decide +kernel
theorem dX9_byTurns_57 : decode cX9_byTurns 57 = .ok (.ifCond .ne 6, 3) := by decide +kernel
theorem dX9_byTurns_60 : decode cX9_byTurns 60 = .ok (.ldc 224, 2) := by decide +kernel
theorem dX9_byTurns_62 : decode cX9_byTurns 62 = .ok (.ireturn, 1) := by decide +kernel
theorem dX9_byTurns_63 : decode cX9_byTurns 63 = .ok (.aload_n 0, 1) := by decide +kernel
theorem dX9_byTurns_64 : decode cX9_byTurns 64 = .ok (.getfield 52, 3) := by decide +kernel
theorem dX9_byTurns_67 : decode cX9_byTurns 67 = .ok (.iload 4, 2) := by decide +kernel
theorem dX9_byTurns_69 : decode cX9_byTurns 69 = .ok (.iload 5, 2) := by decide +kernel
theorem dX9_byTurns_71 : decode cX9_byTurns 71 = .ok (.invokevirtual 225, 3) := by decide +kernel
theorem dX9_byTurns_74 : decode cX9_byTurns 74 = .ok (.iconst 2, 1) := by decide +kernel
theorem dX9_byTurns_75 : decode cX9_byTurns 75 = .ok (.istore 6, 2) := by decide +kernel
theorem dX9_byTurns_77 : decode cX9_byTurns 77 = .ok (.aload_n 0, 1) := by decide +kernel
theorem dX9_byTurns_78 : decode cX9_byTurns 78 = .ok (.getfield 52, 3) := by decide +kernel
theorem dX9_byTurns_81 : decode cX9_byTurns 81 = .ok (.aload_n 0, 1) := by decide +kernel
theorem dX9_byTurns_82 : decode cX9_byTurns 82 = .ok (.getfield 10, 3) := by decide +kernel
theorem dX9_byTurns_85 : decode cX9_byTurns 85 = .ok (.getfield 193, 3) := by decide +kernel
theorem dX9_byTurns_88 : decode cX9_byTurns 88 = .ok (.iload 4, 2) := by decide +kernel
theorem dX9_byTurns_90 : decode cX9_byTurns 90 = .ok (.iaload, 1) := by decide +kernel
theorem dX9_byTurns_91 : decode cX9_byTurns 91 = .ok (.aload_n 0, 1) := by decide +kernel
theorem dX9_byTurns_92 : decode cX9_byTurns 92 = .ok (.getfield 10, 3) := by decide +kernel
theorem dX9_byTurns_95 : decode cX9_byTurns 95 = .ok (.getfield 193, 3) := by decide +kernel
theorem dX9_byTurns_98 : decode cX9_byTurns 98 = .ok (.iload 5, 2) := by decide +kernel
theorem dX9_byTurns_100 : decode cX9_byTurns 100 = .ok (.iaload, 1) := by decide +kernel
theorem dX9_byTurns_101 : decode cX9_byTurns 101 = .ok (.iload_n 2, 1) := by decide +kernel
theorem dX9_byTurns_102 : decode cX9_byTurns 102 = .ok (.iconst 1, 1) := by decide +kernel
theorem dX9_byTurns_103 : decode cX9_byTurns 103 = .ok (.isub, 1) := by decide +kernel
theorem dX9_byTurns_104 : decode cX9_byTurns 104 = .ok (.iconst 0, 1) := by decide +kernel
theorem dX9_byTurns_105 : decode cX9_byTurns 105 = .ok (.invokevirtual 229, 3) := by decide +kernel
theorem dX9_byTurns_108 : decode cX9_byTurns 108 = .ok (.istore 7, 2) := by decide +kernel
theorem dX9_byTurns_110 : decode cX9_byTurns 110 = .ok (.iconst 0, 1) := by decide +kernel
theorem dX9_byTurns_111 : decode cX9_byTurns 111 = .ok (.istore 8, 2) := by decide +kernel
theorem dX9_byTurns_113 : decode cX9_byTurns 113 = .ok (.iload 8, 2) := by decide +kernel
theorem dX9_byTurns_115 : decode cX9_byTurns 115 = .ok (.iconst 2, 1) := by decide +kernel
theorem dX9_byTurns_116 : decode cX9_byTurns 116 = .ok (.if_icmp .ge 62, 3) := by decide +kernel
theorem dX9_byTurns_119 : decode cX9_byTurns 119 = .ok (.aload_n 0, 1) := by decide +kernel
theorem dX9_byTurns_120 : decode cX9_byTurns 120 = .ok (.getfield 52, 3) := by decide +kernel
theorem dX9_byTurns_123 : decode cX9_byTurns 123 = .ok (.aload_n 0, 1) := by decide +kernel
theorem dX9_byTurns_124 : decode cX9_byTurns 124 = .ok (.getfield 10, 3) := by decide +kernel
theorem dX9_byTurns_127 : decode cX9_byTurns 127 = .ok (.getfield 193, 3) := by decide +kernel
theorem dX9_byTurns_130 : decode cX9_byTurns 130 = .ok (.iload 4, 2) := by decide +kernel
theorem dX9_byTurns_132 : decode cX9_byTurns 132 = .ok (.iaload, 1) := by decide +kernel
theorem dX9_byTurns_133 : decode cX9_byTurns 133 = .ok (.iload 8, 2) := by decide +kernel
theorem dX9_byTurns_135 : decode cX9_byTurns 135 = .ok (.invokestatic 233, 3) := by decide +kernel
theorem dX9_byTurns_138 : decode cX9_byTurns 138 = .ok (.aload_n 0, 1) := by decide +kernel
theorem dX9_byTurns_139 : decode cX9_byTurns 139 = .ok (.getfield 10, 3) := by decide +kernel
theorem dX9_byTurns_142 : decode cX9_byTurns 142 = .ok (.getfield 193, 3) := by decide +kernel
theorem dX9_byTurns_145 : decode cX9_byTurns 145 = .ok (.iload 5, 2) := by decide +kernel
theorem dX9_byTurns_147 : decode cX9_byTurns 147 = .ok (.iaload, 1) := by decide +kernel
theorem dX9_byTurns_148 : decode cX9_byTurns 148 = .ok (.iload_n 2, 1) := by decide +kernel
theorem dX9_byTurns_149 : decode cX9_byTurns 149 = .ok (.iconst 1, 1) := by decide +kernel
theorem dX9_byTurns_150 : decode cX9_byTurns 150 = .ok (.isub, 1) := by decide +kernel
theorem dX9_byTurns_151 : decode cX9_byTurns 151 = .ok (.iconst 0, 1) := by decide +kernel
theorem dX9_byTurns_152 : decode cX9_byTurns 152 = .ok (.invokevirtual 229, 3) := by decide +kernel
theorem dX9_byTurns_155 : decode cX9_byTurns 155 = .ok (.istore 9, 2) := by decide +kernel
theorem dX9_byTurns_157 : decode cX9_byTurns 157 = .ok (.iload 9, 2) := by decide +kernel
theorem dX9_byTurns_159 : decode cX9_byTurns 159 = .ok (.iload 7, 2) := by decide +kernel
theorem dX9_byTurns_161 : decode cX9_byTurns 161 = .ok (.if_icmp .le 11, 3) := by decide +kernel
theorem dX9_byTurns_164 : decode cX9_byTurns 164 = .ok (.iload 9, 2) := by decide +kernel
theorem dX9_byTurns_166 : decode cX9_byTurns 166 = .ok (.istore 7, 2) := by decide +kernel
theorem dX9_byTurns_168 : decode cX9_byTurns 168 = .ok (.iload 8, 2) := by decide +kernel
theorem dX9_byTurns_170 : decode cX9_byTurns 170 = .ok (.istore 6, 2) := by decide +kernel
theorem dX9_byTurns_172 : decode cX9_byTurns 172 = .ok (.iinc 8 1, 3) := by decide +kernel
theorem dX9_byTurns_175 : decode cX9_byTurns 175 = .ok (.goto (-62), 3) := by decide +kernel
theorem dX9_byTurns_178 : decode cX9_byTurns 178 = .ok (.iload_n 3, 1) := by decide +kernel
theorem dX9_byTurns_179 : decode cX9_byTurns 179 = .ok (.ifCond .ne 8, 3) := by decide +kernel
theorem dX9_byTurns_182 : decode cX9_byTurns 182 = .ok (.iload 7, 2) := by decide +kernel
theorem dX9_byTurns_184 : decode cX9_byTurns 184 = .ok (.goto 5, 3) := by decide +kernel
theorem dX9_byTurns_187 : decode cX9_byTurns 187 = .ok (.iload 6, 2) := by decide +kernel
theorem dX9_byTurns_189 : decode cX9_byTurns 189 = .ok (.ireturn, 1) := by decide +kernel
theorem dX9_drawn_0 : decode cX9_drawn 0 = .ok (.iload_n 2, 1) := by decide +kernel
theorem dX9_drawn_1 : decode cX9_drawn 1 = .ok (.sipush 10000, 3) := by decide +kernel
theorem dX9_drawn_4 : decode cX9_drawn 4 = .ok (.idiv, 1) := by decide +kernel
theorem dX9_drawn_5 : decode cX9_drawn 5 = .ok (.istore 4, 2) := by decide +kernel
theorem dX9_drawn_7 : decode cX9_drawn 7 = .ok (.iload_n 2, 1) := by decide +kernel
theorem dX9_drawn_8 : decode cX9_drawn 8 = .ok (.bipush 100, 2) := by decide +kernel
theorem dX9_drawn_10 : decode cX9_drawn 10 = .ok (.idiv, 1) := by decide +kernel
theorem dX9_drawn_11 : decode cX9_drawn 11 = .ok (.bipush 100, 2) := by decide +kernel
theorem dX9_drawn_13 : decode cX9_drawn 13 = .ok (.irem, 1) := by decide +kernel
theorem dX9_drawn_14 : decode cX9_drawn 14 = .ok (.istore 5, 2) := by decide +kernel
theorem dX9_drawn_16 : decode cX9_drawn 16 = .ok (.iload_n 2, 1) := by decide +kernel
theorem dX9_drawn_17 : decode cX9_drawn 17 = .ok (.bipush 100, 2) := by decide +kernel
theorem dX9_drawn_19 : decode cX9_drawn 19 = .ok (.irem, 1) := by decide +kernel
theorem dX9_drawn_20 : decode cX9_drawn 20 = .ok (.istore 6, 2) := by decide +kernel
theorem dX9_drawn_22 : decode cX9_drawn 22 = .ok (.iload 4, 2) := by decide +kernel
theorem dX9_drawn_24 : decode cX9_drawn 24 = .ok (.iconst 1, 1) := by decide +kernel
theorem dX9_drawn_25 : decode cX9_drawn 25 = .ok (.if_icmp .lt 34, 3) := by decide +kernel
theorem dX9_drawn_28 : decode cX9_drawn 28 = .ok (.iload 4, 2) := by decide +kernel
theorem dX9_drawn_30 : decode cX9_drawn 30 = .ok (.bipush 30, 2) := by decide +kernel
theorem dX9_drawn_32 : decode cX9_drawn 32 = .ok (.if_icmp .gt 27, 3) := by decide +kernel
theorem dX9_drawn_35 : decode cX9_drawn 35 = .ok (.iload 5, 2) := by decide +kernel
theorem dX9_drawn_37 : decode cX9_drawn 37 = .ok (.iconst 1, 1) := by decide +kernel
theorem dX9_drawn_38 : decode cX9_drawn 38 = .ok (.if_icmp .lt 21, 3) := by decide +kernel
theorem dX9_drawn_41 : decode cX9_drawn 41 = .ok (.iload 5, 2) := by decide +kernel
theorem dX9_drawn_43 : decode cX9_drawn 43 = .ok (.bipush 60, 2) := by decide +kernel
theorem dX9_drawn_45 : decode cX9_drawn 45 = .ok (.if_icmp .gt 14, 3) := by decide +kernel
theorem dX9_drawn_48 : decode cX9_drawn 48 = .ok (.iload 6, 2) := by decide +kernel
theorem dX9_drawn_50 : decode cX9_drawn 50 = .ok (.bipush 12, 2) := by decide +kernel
theorem dX9_drawn_52 : decode cX9_drawn 52 = .ok (.if_icmp .gt 7, 3) := by decide +kernel
theorem dX9_drawn_55 : decode cX9_drawn 55 = .ok (.iconst 1, 1) := by decide +kernel
theorem dX9_drawn_56 : decode cX9_drawn 56 = .ok (.goto 4, 3) := by decide +kernel
theorem dX9_drawn_59 : decode cX9_drawn 59 = .ok (.iconst 0, 1) := by decide +kernel
theorem dX9_drawn_60 : decode cX9_drawn 60 = .ok (.istore 7, 2) := by decide +kernel
theorem dX9_drawn_62 : decode cX9_drawn 62 = .ok (.iload 7, 2) := by decide +kernel
theorem dX9_drawn_64 : decode cX9_drawn 64 = .ok (.ifCond .eq 19, 3) := by decide +kernel
theorem dX9_drawn_67 : decode cX9_drawn 67 = .ok (.iload_n 3, 1) := by decide +kernel
theorem dX9_drawn_68 : decode cX9_drawn 68 = .ok (.iconst (-1), 1) := by decide +kernel
theorem dX9_drawn_69 : decode cX9_drawn 69 = .ok (.if_icmp .eq 16, 3) := by decide +kernel
theorem dX9_drawn_72 : decode cX9_drawn 72 = .ok (.aload_n 0, 1) := by decide +kernel
theorem dX9_drawn_73 : decode cX9_drawn 73 = .ok (.getfield 10, 3) := by decide +kernel
theorem dX9_drawn_76 : decode cX9_drawn 76 = .ok (.iload_n 3, 1) := by decide +kernel
theorem dX9_drawn_77 : decode cX9_drawn 77 = .ok (.invokevirtual 114, 3) := by decide +kernel
theorem dX9_drawn_80 : decode cX9_drawn 80 = .ok (.ifCond .ne 5, 3) := by decide +kernel
theorem dX9_drawn_83 : decode cX9_drawn 83 = .ok (.iconst (-1), 1) := by decide +kernel
theorem dX9_drawn_84 : decode cX9_drawn 84 = .ok (.ireturn, 1) := by decide +kernel
theorem dX9_drawn_85 : decode cX9_drawn 85 = .ok (.aload_n 0, 1) := by decide +kernel
theorem dX9_drawn_86 : decode cX9_drawn 86 = .ok (.getfield 43, 3) := by decide +kernel
theorem dX9_drawn_89 : decode cX9_drawn 89 = .ok (.iload_n 1, 1) := by decide +kernel
theorem dX9_drawn_90 : decode cX9_drawn 90 = .ok (.putfield 236, 3) := by decide +kernel
theorem dX9_drawn_93 : decode cX9_drawn 93 = .ok (.iconst 0, 1) := by decide +kernel
theorem dX9_drawn_94 : decode cX9_drawn 94 = .ok (.istore 8, 2) := by decide +kernel
theorem dX9_drawn_96 : decode cX9_drawn 96 = .ok (.iconst 0, 1) := by decide +kernel
theorem dX9_drawn_97 : decode cX9_drawn 97 = .ok (.istore 9, 2) := by decide +kernel
theorem dX9_drawn_99 : decode cX9_drawn 99 = .ok (.iload 9, 2) := by decide +kernel
theorem dX9_drawn_101 : decode cX9_drawn 101 = .ok (.iload 4, 2) := by decide +kernel
theorem dX9_drawn_103 : decode cX9_drawn 103 = .ok (.if_icmp .ge 66, 3) := by decide +kernel
theorem dX9_drawn_106 : decode cX9_drawn 106 = .ok (.aload_n 0, 1) := by decide +kernel
theorem dX9_drawn_107 : decode cX9_drawn 107 = .ok (.getfield 43, 3) := by decide +kernel
theorem dX9_drawn_110 : decode cX9_drawn 110 = .ok (.iload 5, 2) := by decide +kernel
theorem dX9_drawn_112 : decode cX9_drawn 112 = .ok (.iload 6, 2) := by decide +kernel
theorem dX9_drawn_114 : decode cX9_drawn 114 = .ok (.invokevirtual 239, 3) := by decide +kernel
theorem dX9_drawn_117 : decode cX9_drawn 117 = .ok (.iload_n 3, 1) := by decide +kernel
theorem dX9_drawn_118 : decode cX9_drawn 118 = .ok (.iconst (-1), 1) := by decide +kernel
theorem dX9_drawn_119 : decode cX9_drawn 119 = .ok (.if_icmp .ne 21, 3) := by decide +kernel
theorem dX9_drawn_122 : decode cX9_drawn 122 = .ok (.iload 8, 2) := by decide +kernel
theorem dX9_drawn_124 : decode cX9_drawn 124 = .ok (.aload_n 0, 1) := by decide +kernel
theorem dX9_drawn_125 : decode cX9_drawn 125 = .ok (.getfield 43, 3) := by decide +kernel
theorem dX9_drawn_128 : decode cX9_drawn 128 = .ok (.getfield 153, 3) := by decide +kernel
theorem dX9_drawn_131 : decode cX9_drawn 131 = .ok (.invokevirtual 242, 3) := by decide +kernel
theorem dX9_drawn_134 : decode cX9_drawn 134 = .ok (.iadd, 1) := by decide +kernel
theorem dX9_drawn_135 : decode cX9_drawn 135 = .ok (.istore 8, 2) := by decide +kernel
theorem dX9_drawn_137 : decode cX9_drawn 137 = .ok (.goto 26, 3) := by decide +kernel
theorem dX9_drawn_140 : decode cX9_drawn 140 = .ok (.aload_n 0, 1) := by decide +kernel
theorem dX9_drawn_141 : decode cX9_drawn 141 = .ok (.getfield 34, 3) := by decide +kernel
theorem dX9_drawn_144 : decode cX9_drawn 144 = .ok (.aload_n 0, 1) := by decide +kernel
theorem dX9_drawn_145 : decode cX9_drawn 145 = .ok (.getfield 43, 3) := by decide +kernel
theorem dX9_drawn_148 : decode cX9_drawn 148 = .ok (.getfield 153, 3) := by decide +kernel
theorem dX9_drawn_151 : decode cX9_drawn 151 = .ok (.bipush 9, 2) := by decide +kernel
theorem dX9_drawn_153 : decode cX9_drawn 153 = .ok (.invokevirtual 164, 3) := by decide +kernel
theorem dX9_drawn_156 : decode cX9_drawn 156 = .ok (.iload_n 3, 1) := by decide +kernel
theorem dX9_drawn_157 : decode cX9_drawn 157 = .ok (.if_icmp .ne 6, 3) := by decide +kernel
theorem dX9_drawn_160 : decode cX9_drawn 160 = .ok (.iinc 8 1, 3) := by decide +kernel
theorem dX9_drawn_163 : decode cX9_drawn 163 = .ok (.iinc 9 1, 3) := by decide +kernel
theorem dX9_drawn_166 : decode cX9_drawn 166 = .ok (.goto (-67), 3) := by decide +kernel
theorem dX9_drawn_169 : decode cX9_drawn 169 = .ok (.iload 8, 2) := by decide +kernel
theorem dX9_drawn_171 : decode cX9_drawn 171 = .ok (.ireturn, 1) := by decide +kernel
theorem dX9_slips_0 : decode cX9_slips 0 = .ok (.aload_n 0, 1) := by decide +kernel
theorem dX9_slips_1 : decode cX9_slips 1 = .ok (.getfield 10, 3) := by decide +kernel
theorem dX9_slips_4 : decode cX9_slips 4 = .ok (.iload_n 1, 1) := by decide +kernel
theorem dX9_slips_5 : decode cX9_slips 5 = .ok (.invokevirtual 114, 3) := by decide +kernel
theorem dX9_slips_8 : decode cX9_slips 8 = .ok (.ifCond .eq 12, 3) := by decide +kernel
theorem dX9_slips_11 : decode cX9_slips 11 = .ok (.iload_n 2, 1) := by decide +kernel
theorem dX9_slips_12 : decode cX9_slips 12 = .ok (.bipush 7, 2) := by decide +kernel
theorem dX9_slips_14 : decode cX9_slips 14 = .ok (.invokestatic 87, 3) := by decide +kernel
theorem dX9_slips_17 : decode cX9_slips 17 = .ok (.ifCond .ne 5, 3) := by decide +kernel
theorem dX9_slips_20 : decode cX9_slips 20 = .ok (.iconst (-1), 1) := by decide +kernel
theorem dX9_slips_21 : decode cX9_slips 21 = .ok (.ireturn, 1) := by decide +kernel
theorem dX9_slips_22 : decode cX9_slips 22 = .ok (.aload_n 0, 1) := by decide +kernel
theorem dX9_slips_23 : decode cX9_slips 23 = .ok (.getfield 10, 3) := by decide +kernel
theorem dX9_slips_26 : decode cX9_slips 26 = .ok (.getfield 117, 3) := by decide +kernel
theorem dX9_slips_29 : decode cX9_slips 29 = .ok (.bipush 12, 2) := by decide +kernel
theorem dX9_slips_31 : decode cX9_slips 31 = .ok (.if_icmp .lt 6, 3) := by decide +kernel
theorem dX9_slips_34 : decode cX9_slips 34 = .ok (.bipush (-3), 2) := by decide +kernel
theorem dX9_slips_36 : decode cX9_slips 36 = .ok (.ireturn, 1) := by decide +kernel
theorem dX9_slips_37 : decode cX9_slips 37 = .ok (.aload_n 0, 1) := by decide +kernel
theorem dX9_slips_38 : decode cX9_slips 38 = .ok (.getfield 10, 3) := by decide +kernel
theorem dX9_slips_41 : decode cX9_slips 41 = .ok (.iload_n 1, 1) := by decide +kernel
theorem dX9_slips_42 : decode cX9_slips 42 = .ok (.invokevirtual 182, 3) := by decide +kernel
theorem dX9_slips_45 : decode cX9_slips 45 = .ok (.ifCond .ne 6, 3) := by decide +kernel
theorem dX9_slips_48 : decode cX9_slips 48 = .ok (.bipush (-5), 2) := by decide +kernel
theorem dX9_slips_50 : decode cX9_slips 50 = .ok (.ireturn, 1) := by decide +kernel
theorem dX9_slips_51 : decode cX9_slips 51 = .ok (.aload_n 0, 1) := by decide +kernel
theorem dX9_slips_52 : decode cX9_slips 52 = .ok (.getfield 56, 3) := by decide +kernel
theorem dX9_slips_55 : decode cX9_slips 55 = .ok (.iconst 0, 1) := by decide +kernel
theorem dX9_slips_56 : decode cX9_slips 56 = .ok (.dup2, 1) := by decide +kernel
theorem dX9_slips_57 : decode cX9_slips 57 = .ok (.iaload, 1) := by decide +kernel
theorem dX9_slips_58 : decode cX9_slips 58 = .ok (.iconst 1, 1) := by decide +kernel
theorem dX9_slips_59 : decode cX9_slips 59 = .ok (.iadd, 1) := by decide +kernel
theorem dX9_slips_60 : decode cX9_slips 60 = .ok (.iastore, 1) := by decide +kernel
theorem dX9_slips_61 : decode cX9_slips 61 = .ok (.aload_n 0, 1) := by decide +kernel
theorem dX9_slips_62 : decode cX9_slips 62 = .ok (.getfield 10, 3) := by decide +kernel
theorem dX9_slips_65 : decode cX9_slips 65 = .ok (.iload_n 1, 1) := by decide +kernel
theorem dX9_slips_66 : decode cX9_slips 66 = .ok (.aload_n 0, 1) := by decide +kernel
theorem dX9_slips_67 : decode cX9_slips 67 = .ok (.getfield 10, 3) := by decide +kernel
theorem dX9_slips_70 : decode cX9_slips 70 = .ok (.getfield 245, 3) := by decide +kernel
theorem dX9_slips_73 : decode cX9_slips 73 = .ok (.iload_n 2, 1) := by decide +kernel
theorem dX9_slips_74 : decode cX9_slips 74 = .ok (.invokevirtual 120, 3) := by decide +kernel
theorem dX9_slips_77 : decode cX9_slips 77 = .ok (.ireturn, 1) := by decide +kernel
theorem dX9_minute_0 : decode cX9_minute 0 = .ok (.aload_n 0, 1) := by decide +kernel
theorem dX9_minute_1 : decode cX9_minute 1 = .ok (.getfield 56, 3) := by decide +kernel
theorem dX9_minute_4 : decode cX9_minute 4 = .ok (.iconst 1, 1) := by decide +kernel
theorem dX9_minute_5 : decode cX9_minute 5 = .ok (.dup2, 1) := by decide +kernel
theorem dX9_minute_6 : decode cX9_minute 6 = .ok (.iaload, 1) := by decide +kernel
theorem dX9_minute_7 : decode cX9_minute 7 = .ok (.iconst 1, 1) := by decide +kernel
theorem dX9_minute_8 : decode cX9_minute 8 = .ok (.iadd, 1) := by decide +kernel
theorem dX9_minute_9 : decode cX9_minute 9 = .ok (.iastore, 1) := by decide +kernel
theorem dX9_minute_10 : decode cX9_minute 10 = .ok (.aload_n 0, 1) := by decide +kernel
theorem dX9_minute_11 : decode cX9_minute 11 = .ok (.getfield 10, 3) := by decide +kernel
theorem dX9_minute_14 : decode cX9_minute 14 = .ok (.invokevirtual 170, 3) := by decide +kernel
theorem dX9_minute_17 : decode cX9_minute 17 = .ok (.aload_n 0, 1) := by decide +kernel
theorem dX9_minute_18 : decode cX9_minute 18 = .ok (.getfield 10, 3) := by decide +kernel
theorem dX9_minute_21 : decode cX9_minute 21 = .ok (.getfield 245, 3) := by decide +kernel
theorem dX9_minute_24 : decode cX9_minute 24 = .ok (.ireturn, 1) := by decide +kernel
theorem dX9_goes_0 : decode cX9_goes 0 = .ok (.aload_n 0, 1) := by decide +kernel
theorem dX9_goes_1 : decode cX9_goes 1 = .ok (.getfield 34, 3) := by decide +kernel
theorem dX9_goes_4 : decode cX9_goes 4 = .ok (.aload_n 0, 1) := by decide +kernel
theorem dX9_goes_5 : decode cX9_goes 5 = .ok (.getfield 10, 3) := by decide +kernel
theorem dX9_goes_8 : decode cX9_goes 8 = .ok (.bipush 9, 2) := by decide +kernel
theorem dX9_goes_10 : decode cX9_goes 10 = .ok (.invokevirtual 164, 3) := by decide +kernel
theorem dX9_goes_13 : decode cX9_goes 13 = .ok (.istore_n 1, 1) := by decide +kernel
theorem dX9_goes_14 : decode cX9_goes 14 = .ok (.aload_n 0, 1) := by decide +kernel
theorem dX9_goes_15 : decode cX9_goes 15 = .ok (.getfield 10, 3) := by decide +kernel
theorem dX9_goes_18 : decode cX9_goes 18 = .ok (.iload_n 1, 1) := by decide +kernel
theorem dX9_goes_19 : decode cX9_goes 19 = .ok (.invokevirtual 114, 3) := by decide +kernel
theorem dX9_goes_22 : decode cX9_goes 22 = .ok (.ifCond .ne 6, 3) := by decide +kernel
theorem dX9_goes_25 : decode cX9_goes 25 = .ok (.bipush (-2), 2) := by decide +kernel
theorem dX9_goes_27 : decode cX9_goes 27 = .ok (.ireturn, 1) := by decide +kernel
theorem dX9_goes_28 : decode cX9_goes 28 = .ok (.aload_n 0, 1) := by decide +kernel
theorem dX9_goes_29 : decode cX9_goes 29 = .ok (.getfield 56, 3) := by decide +kernel
theorem dX9_goes_32 : decode cX9_goes 32 = .ok (.iconst 2, 1) := by decide +kernel
theorem dX9_goes_33 : decode cX9_goes 33 = .ok (.dup2, 1) := by decide +kernel
theorem dX9_goes_34 : decode cX9_goes 34 = .ok (.iaload, 1) := by decide +kernel
theorem dX9_goes_35 : decode cX9_goes 35 = .ok (.iconst 1, 1) := by decide +kernel
theorem dX9_goes_36 : decode cX9_goes 36 = .ok (.iadd, 1) := by decide +kernel
theorem dX9_goes_37 : decode cX9_goes 37 = .ok (.iastore, 1) := by decide +kernel
theorem dX9_goes_38 : decode cX9_goes 38 = .ok (.aload_n 0, 1) := by decide +kernel
theorem dX9_goes_39 : decode cX9_goes 39 = .ok (.getfield 56, 3) := by decide +kernel
theorem dX9_goes_42 : decode cX9_goes 42 = .ok (.iconst 4, 1) := by decide +kernel
theorem dX9_goes_43 : decode cX9_goes 43 = .ok (.dup2, 1) := by decide +kernel
theorem dX9_goes_44 : decode cX9_goes 44 = .ok (.iaload, 1) := by decide +kernel
theorem dX9_goes_45 : decode cX9_goes 45 = .ok (.aload_n 0, 1) := by decide +kernel
theorem dX9_goes_46 : decode cX9_goes 46 = .ok (.getfield 10, 3) := by decide +kernel
theorem dX9_goes_49 : decode cX9_goes 49 = .ok (.getfield 158, 3) := by decide +kernel
theorem dX9_goes_52 : decode cX9_goes 52 = .ok (.iload_n 1, 1) := by decide +kernel
theorem dX9_goes_53 : decode cX9_goes 53 = .ok (.iaload, 1) := by decide +kernel
theorem dX9_goes_54 : decode cX9_goes 54 = .ok (.iadd, 1) := by decide +kernel
theorem dX9_goes_55 : decode cX9_goes 55 = .ok (.iastore, 1) := by decide +kernel
theorem dX9_goes_56 : decode cX9_goes 56 = .ok (.aload_n 0, 1) := by decide +kernel
theorem dX9_goes_57 : decode cX9_goes 57 = .ok (.getfield 56, 3) := by decide +kernel
theorem dX9_goes_60 : decode cX9_goes 60 = .ok (.iconst 1, 1) := by decide +kernel
theorem dX9_goes_61 : decode cX9_goes 61 = .ok (.dup2, 1) := by decide +kernel
theorem dX9_goes_62 : decode cX9_goes 62 = .ok (.iaload, 1) := by decide +kernel
theorem dX9_goes_63 : decode cX9_goes 63 = .ok (.iconst 1, 1) := by decide +kernel
theorem dX9_goes_64 : decode cX9_goes 64 = .ok (.iadd, 1) := by decide +kernel
theorem dX9_goes_65 : decode cX9_goes 65 = .ok (.iastore, 1) := by decide +kernel
theorem dX9_goes_66 : decode cX9_goes 66 = .ok (.aload_n 0, 1) := by decide +kernel
theorem dX9_goes_67 : decode cX9_goes 67 = .ok (.getfield 10, 3) := by decide +kernel
theorem dX9_goes_70 : decode cX9_goes 70 = .ok (.getfield 248, 3) := by decide +kernel
theorem dX9_goes_73 : decode cX9_goes 73 = .ok (.iload_n 1, 1) := by decide +kernel
theorem dX9_goes_74 : decode cX9_goes 74 = .ok (.iconst 1, 1) := by decide +kernel
theorem dX9_goes_75 : decode cX9_goes 75 = .ok (.iastore, 1) := by decide +kernel
theorem dX9_goes_76 : decode cX9_goes 76 = .ok (.aload_n 0, 1) := by decide +kernel
theorem dX9_goes_77 : decode cX9_goes 77 = .ok (.getfield 10, 3) := by decide +kernel
theorem dX9_goes_80 : decode cX9_goes 80 = .ok (.invokevirtual 170, 3) := by decide +kernel
theorem dX9_goes_83 : decode cX9_goes 83 = .ok (.iload_n 1, 1) := by decide +kernel
theorem dX9_goes_84 : decode cX9_goes 84 = .ok (.ireturn, 1) := by decide +kernel
theorem dX9_looks_0 : decode cX9_looks 0 = .ok (.aload_n 0, 1) := by decide +kernel
theorem dX9_looks_1 : decode cX9_looks 1 = .ok (.getfield 10, 3) := by decide +kernel
theorem dX9_looks_4 : decode cX9_looks 4 = .ok (.iload_n 1, 1) := by decide +kernel
theorem dX9_looks_5 : decode cX9_looks 5 = .ok (.invokevirtual 114, 3) := by decide +kernel
theorem dX9_looks_8 : decode cX9_looks 8 = .ok (.ifCond .eq 11, 3) := by decide +kernel
theorem dX9_looks_11 : decode cX9_looks 11 = .ok (.iload_n 2, 1) := by decide +kernel
theorem dX9_looks_12 : decode cX9_looks 12 = .ok (.iconst 2, 1) := by decide +kernel
theorem dX9_looks_13 : decode cX9_looks 13 = .ok (.invokestatic 87, 3) := by decide +kernel
theorem dX9_looks_16 : decode cX9_looks 16 = .ok (.ifCond .ne 5, 3) := by decide +kernel
theorem dX9_looks_19 : decode cX9_looks 19 = .ok (.iconst (-1), 1) := by decide +kernel
theorem dX9_looks_20 : decode cX9_looks 20 = .ok (.ireturn, 1) := by decide +kernel
theorem dX9_looks_21 : decode cX9_looks 21 = .ok (.aload_n 0, 1) := by decide +kernel
theorem dX9_looks_22 : decode cX9_looks 22 = .ok (.getfield 10, 3) := by decide +kernel
theorem dX9_looks_25 : decode cX9_looks 25 = .ok (.iload_n 1, 1) := by decide +kernel
theorem dX9_looks_26 : decode cX9_looks 26 = .ok (.invokevirtual 182, 3) := by decide +kernel
theorem dX9_looks_29 : decode cX9_looks 29 = .ok (.ifCond .ne 6, 3) := by decide +kernel
theorem dX9_looks_32 : decode cX9_looks 32 = .ok (.bipush (-5), 2) := by decide +kernel
theorem dX9_looks_34 : decode cX9_looks 34 = .ok (.ireturn, 1) := by decide +kernel
theorem dX9_looks_35 : decode cX9_looks 35 = .ok (.aload_n 0, 1) := by decide +kernel
theorem dX9_looks_36 : decode cX9_looks 36 = .ok (.getfield 56, 3) := by decide +kernel
theorem dX9_looks_39 : decode cX9_looks 39 = .ok (.iconst 3, 1) := by decide +kernel
theorem dX9_looks_40 : decode cX9_looks 40 = .ok (.dup2, 1) := by decide +kernel
theorem dX9_looks_41 : decode cX9_looks 41 = .ok (.iaload, 1) := by decide +kernel
theorem dX9_looks_42 : decode cX9_looks 42 = .ok (.iconst 1, 1) := by decide +kernel
theorem dX9_looks_43 : decode cX9_looks 43 = .ok (.iadd, 1) := by decide +kernel
theorem dX9_looks_44 : decode cX9_looks 44 = .ok (.iastore, 1) := by decide +kernel
theorem dX9_looks_45 : decode cX9_looks 45 = .ok (.aload_n 0, 1) := by decide +kernel
theorem dX9_looks_46 : decode cX9_looks 46 = .ok (.getfield 10, 3) := by decide +kernel
theorem dX9_looks_49 : decode cX9_looks 49 = .ok (.getfield 193, 3) := by decide +kernel
theorem dX9_looks_52 : decode cX9_looks 52 = .ok (.iload_n 1, 1) := by decide +kernel
theorem dX9_looks_53 : decode cX9_looks 53 = .ok (.iaload, 1) := by decide +kernel
theorem dX9_looks_54 : decode cX9_looks 54 = .ok (.istore_n 3, 1) := by decide +kernel
theorem dX9_looks_55 : decode cX9_looks 55 = .ok (.aload_n 0, 1) := by decide +kernel
theorem dX9_looks_56 : decode cX9_looks 56 = .ok (.getfield 10, 3) := by decide +kernel
theorem dX9_looks_59 : decode cX9_looks 59 = .ok (.getfield 193, 3) := by decide +kernel
theorem dX9_looks_62 : decode cX9_looks 62 = .ok (.iload_n 1, 1) := by decide +kernel
theorem dX9_looks_63 : decode cX9_looks 63 = .ok (.iload_n 2, 1) := by decide +kernel
theorem dX9_looks_64 : decode cX9_looks 64 = .ok (.iastore, 1) := by decide +kernel
theorem dX9_looks_65 : decode cX9_looks 65 = .ok (.iload_n 3, 1) := by decide +kernel
theorem dX9_looks_66 : decode cX9_looks 66 = .ok (.ireturn, 1) := by decide +kernel
theorem dX9_led_0 : decode cX9_led 0 = .ok (.iload_n 1, 1) := by decide +kernel
theorem dX9_led_1 : decode cX9_led 1 = .ok (.ifCond .lt 17, 3) := by decide +kernel
theorem dX9_led_4 : decode cX9_led 4 = .ok (.iload_n 1, 1) := by decide +kernel
theorem dX9_led_5 : decode cX9_led 5 = .ok (.iconst 5, 1) := by decide +kernel
theorem dX9_led_6 : decode cX9_led 6 = .ok (.if_icmp .ge 12, 3) := by decide +kernel
theorem dX9_led_9 : decode cX9_led 9 = .ok (.aload_n 0, 1) := by decide +kernel
theorem dX9_led_10 : decode cX9_led 10 = .ok (.getfield 56, 3) := by decide +kernel
theorem dX9_led_13 : decode cX9_led 13 = .ok (.iload_n 1, 1) := by decide +kernel
theorem dX9_led_14 : decode cX9_led 14 = .ok (.iaload, 1) := by decide +kernel
theorem dX9_led_15 : decode cX9_led 15 = .ok (.goto 4, 3) := by decide +kernel
theorem dX9_led_18 : decode cX9_led 18 = .ok (.iconst (-1), 1) := by decide +kernel
theorem dX9_led_19 : decode cX9_led 19 = .ok (.ireturn, 1) := by decide +kernel
theorem dX9_image_0 : decode cX9_image 0 = .ok (.aload_n 0, 1) := by decide +kernel
theorem dX9_image_1 : decode cX9_image 1 = .ok (.getfield 62, 3) := by decide +kernel
theorem dX9_image_4 : decode cX9_image 4 = .ok (.aload_n 0, 1) := by decide +kernel
theorem dX9_image_5 : decode cX9_image 5 = .ok (.getfield 10, 3) := by decide +kernel
theorem dX9_image_8 : decode cX9_image 8 = .ok (.aload_n 0, 1) := by decide +kernel
theorem dX9_image_9 : decode cX9_image 9 = .ok (.getfield 56, 3) := by decide +kernel
theorem dX9_image_12 : decode cX9_image 12 = .ok (.invokevirtual 251, 3) := by decide +kernel
theorem dX9_image_15 : decode cX9_image 15 = .ok (.aload_n 0, 1) := by decide +kernel
theorem dX9_image_16 : decode cX9_image 16 = .ok (.getfield 56, 3) := by decide +kernel
theorem dX9_image_19 : decode cX9_image 19 = .ok (.iconst 2, 1) := by decide +kernel
theorem dX9_image_20 : decode cX9_image 20 = .ok (.iaload, 1) := by decide +kernel
theorem dX9_image_21 : decode cX9_image 21 = .ok (.ireturn, 1) := by decide +kernel
theorem dX9_back_0 : decode cX9_back 0 = .ok (.aload_n 0, 1) := by decide +kernel
theorem dX9_back_1 : decode cX9_back 1 = .ok (.getfield 62, 3) := by decide +kernel
theorem dX9_back_4 : decode cX9_back 4 = .ok (.getfield 255, 3) := by decide +kernel
theorem dX9_back_7 : decode cX9_back 7 = .ok (.ifCond .ne 6, 3) := by decide +kernel
theorem dX9_back_10 : decode cX9_back 10 = .ok (.bipush (-5), 2) := by decide +kernel
theorem dX9_back_12 : decode cX9_back 12 = .ok (.ireturn, 1) := by decide +kernel
theorem dX9_back_13 : decode cX9_back 13 = .ok (.aload_n 0, 1) := by decide +kernel
theorem dX9_back_14 : decode cX9_back 14 = .ok (.getfield 62, 3) := by decide +kernel
theorem dX9_back_17 : decode cX9_back 17 = .ok (.aload_n 0, 1) := by decide +kernel
theorem dX9_back_18 : decode cX9_back 18 = .ok (.getfield 10, 3) := by decide +kernel
theorem dX9_back_21 : decode cX9_back 21 = .ok (.aload_n 0, 1) := by decide +kernel
theorem dX9_back_22 : decode cX9_back 22 = .ok (.getfield 56, 3) := by decide +kernel
theorem dX9_back_25 : decode cX9_back 25 = .ok (.invokevirtual 259, 3) := by decide +kernel
theorem dX9_back_28 : decode cX9_back 28 = .ok (.aload_n 0, 1) := by decide +kernel
theorem dX9_back_29 : decode cX9_back 29 = .ok (.getfield 56, 3) := by decide +kernel
theorem dX9_back_32 : decode cX9_back 32 = .ok (.iconst 2, 1) := by decide +kernel
theorem dX9_back_33 : decode cX9_back 33 = .ok (.iaload, 1) := by decide +kernel
theorem dX9_back_34 : decode cX9_back 34 = .ok (.ireturn, 1) := by decide +kernel
theorem dX9_undo_0 : decode cX9_undo 0 = .ok (.aload_n 0, 1) := by decide +kernel
theorem dX9_undo_1 : decode cX9_undo 1 = .ok (.getfield 69, 3) := by decide +kernel
theorem dX9_undo_4 : decode cX9_undo 4 = .ok (.aload_n 0, 1) := by decide +kernel
theorem dX9_undo_5 : decode cX9_undo 5 = .ok (.getfield 10, 3) := by decide +kernel
theorem dX9_undo_8 : decode cX9_undo 8 = .ok (.invokevirtual 262, 3) := by decide +kernel
theorem dX9_undo_11 : decode cX9_undo 11 = .ok (.ireturn, 1) := by decide +kernel
theorem dX9_redo_0 : decode cX9_redo 0 = .ok (.aload_n 0, 1) := by decide +kernel
theorem dX9_redo_1 : decode cX9_redo 1 = .ok (.getfield 69, 3) := by decide +kernel
theorem dX9_redo_4 : decode cX9_redo 4 = .ok (.aload_n 0, 1) := by decide +kernel
theorem dX9_redo_5 : decode cX9_redo 5 = .ok (.getfield 10, 3) := by decide +kernel
theorem dX9_redo_8 : decode cX9_redo 8 = .ok (.invokevirtual 266, 3) := by decide +kernel
theorem dX9_redo_11 : decode cX9_redo 11 = .ok (.ireturn, 1) := by decide +kernel
theorem dX9_body_0 : decode cX9_body 0 = .ok (.iload_n 1, 1) := by decide +kernel
theorem dX9_body_1 : decode cX9_body 1 = .ok (.invokestatic 269, 3) := by decide +kernel
theorem dX9_body_4 : decode cX9_body 4 = .ok (.ifCond .ne 5, 3) := by decide +kernel
theorem dX9_body_7 : decode cX9_body 7 = .ok (.iconst (-1), 1) := by decide +kernel
theorem dX9_body_8 : decode cX9_body 8 = .ok (.ireturn, 1) := by decide +kernel
theorem dX9_body_9 : decode cX9_body 9 = .ok (.aload_n 0, 1) := by decide +kernel
theorem dX9_body_10 : decode cX9_body 10 = .ok (.getfield 76, 3) := by decide +kernel
theorem dX9_body_13 : decode cX9_body 13 = .ok (.getfield 272, 3) := by decide +kernel
theorem dX9_body_16 : decode cX9_body 16 = .ok (.bipush 50, 2) := by decide +kernel
theorem dX9_body_18 : decode cX9_body 18 = .ok (.if_icmp .lt 8, 3) := by decide +kernel
theorem dX9_body_21 : decode cX9_body 21 = .ok (.bipush (-3), 2) := by decide +kernel
theorem dX9_body_23 : decode cX9_body 23 = .ok (.goto 11, 3) := by decide +kernel
theorem dX9_body_26 : decode cX9_body 26 = .ok (.aload_n 0, 1) := by decide +kernel
theorem dX9_body_27 : decode cX9_body 27 = .ok (.getfield 76, 3) := by decide +kernel
theorem dX9_body_30 : decode cX9_body 30 = .ok (.iload_n 1, 1) := by decide +kernel
theorem dX9_body_31 : decode cX9_body 31 = .ok (.invokevirtual 275, 3) := by decide +kernel
theorem dX9_body_34 : decode cX9_body 34 = .ok (.ireturn, 1) := by decide +kernel
theorem dX9_act_0 : decode cX9_act 0 = .ok (.aload_n 0, 1) := by decide +kernel
theorem dX9_act_1 : decode cX9_act 1 = .ok (.getfield 76, 3) := by decide +kernel
theorem dX9_act_4 : decode cX9_act 4 = .ok (.iload_n 1, 1) := by decide +kernel
theorem dX9_act_5 : decode cX9_act 5 = .ok (.iload_n 2, 1) := by decide +kernel
theorem dX9_act_6 : decode cX9_act 6 = .ok (.iload_n 3, 1) := by decide +kernel
theorem dX9_act_7 : decode cX9_act 7 = .ok (.invokevirtual 277, 3) := by decide +kernel
theorem dX9_act_10 : decode cX9_act 10 = .ok (.ireturn, 1) := by decide +kernel
theorem dX9_trace_0 : decode cX9_trace 0 = .ok (.iload_n 1, 1) := by decide +kernel
theorem dX9_trace_1 : decode cX9_trace 1 = .ok (.ifCond .lt 32, 3) := by decide +kernel
theorem dX9_trace_4 : decode cX9_trace 4 = .ok (.iload_n 1, 1) := by decide +kernel
theorem dX9_trace_5 : decode cX9_trace 5 = .ok (.aload_n 0, 1) := by decide +kernel
theorem dX9_trace_6 : decode cX9_trace 6 = .ok (.getfield 76, 3) := by decide +kernel
theorem dX9_trace_9 : decode cX9_trace 9 = .ok (.getfield 280, 3) := by decide +kernel
theorem dX9_trace_12 : decode cX9_trace 12 = .ok (.if_icmp .ge 21, 3) := by decide +kernel
theorem dX9_trace_15 : decode cX9_trace 15 = .ok (.iload_n 1, 1) := by decide +kernel
theorem dX9_trace_16 : decode cX9_trace 16 = .ok (.bipush 24, 2) := by decide +kernel
theorem dX9_trace_18 : decode cX9_trace 18 = .ok (.if_icmp .ge 15, 3) := by decide +kernel
theorem dX9_trace_21 : decode cX9_trace 21 = .ok (.aload_n 0, 1) := by decide +kernel
theorem dX9_trace_22 : decode cX9_trace 22 = .ok (.getfield 76, 3) := by decide +kernel
theorem dX9_trace_25 : decode cX9_trace 25 = .ok (.getfield 283, 3) := by decide +kernel
theorem dX9_trace_28 : decode cX9_trace 28 = .ok (.iload_n 1, 1) := by decide +kernel
theorem dX9_trace_29 : decode cX9_trace 29 = .ok (.iaload, 1) := by decide +kernel
theorem dX9_trace_30 : decode cX9_trace 30 = .ok (.goto 4, 3) := by decide +kernel
theorem dX9_trace_33 : decode cX9_trace 33 = .ok (.iconst (-1), 1) := by decide +kernel
theorem dX9_trace_34 : decode cX9_trace 34 = .ok (.ireturn, 1) := by decide +kernel
theorem dX9_keep_0 : decode cX9_keep 0 = .ok (.iload_n 1, 1) := by decide +kernel
theorem dX9_keep_1 : decode cX9_keep 1 = .ok (.invokestatic 98, 3) := by decide +kernel
theorem dX9_keep_4 : decode cX9_keep 4 = .ok (.ifCond .eq 19, 3) := by decide +kernel
theorem dX9_keep_7 : decode cX9_keep 7 = .ok (.iload_n 2, 1) := by decide +kernel
theorem dX9_keep_8 : decode cX9_keep 8 = .ok (.iconst (-1), 1) := by decide +kernel
theorem dX9_keep_9 : decode cX9_keep 9 = .ok (.if_icmp .eq 16, 3) := by decide +kernel
theorem dX9_keep_12 : decode cX9_keep 12 = .ok (.aload_n 0, 1) := by decide +kernel
theorem dX9_keep_13 : decode cX9_keep 13 = .ok (.getfield 76, 3) := by decide +kernel
theorem dX9_keep_16 : decode cX9_keep 16 = .ok (.iload_n 2, 1) := by decide +kernel
theorem dX9_keep_17 : decode cX9_keep 17 = .ok (.invokevirtual 286, 3) := by decide +kernel
theorem dX9_keep_20 : decode cX9_keep 20 = .ok (.ifCond .ne 5, 3) := by decide +kernel
theorem dX9_keep_23 : decode cX9_keep 23 = .ok (.iconst (-1), 1) := by decide +kernel
theorem dX9_keep_24 : decode cX9_keep 24 = .ok (.ireturn, 1) := by decide +kernel
theorem dX9_keep_25 : decode cX9_keep 25 = .ok (.aload_n 0, 1) := by decide +kernel
theorem dX9_keep_26 : decode cX9_keep 26 = .ok (.getfield 82, 3) := by decide +kernel
theorem dX9_keep_29 : decode cX9_keep 29 = .ok (.iload_n 1, 1) := by decide +kernel
theorem dX9_keep_30 : decode cX9_keep 30 = .ok (.aaload, 1) := by decide +kernel
theorem dX9_keep_31 : decode cX9_keep 31 = .ok (.iload_n 2, 1) := by decide +kernel
theorem dX9_keep_32 : decode cX9_keep 32 = .ok (.iconst (-1), 1) := by decide +kernel
theorem dX9_keep_33 : decode cX9_keep 33 = .ok (.if_icmp .ne 7, 3) := by decide +kernel
theorem dX9_keep_36 : decode cX9_keep 36 = .ok (.iconst 0, 1) := by decide +kernel
theorem dX9_keep_37 : decode cX9_keep 37 = .ok (.goto 4, 3) := by decide +kernel
theorem dX9_keep_40 : decode cX9_keep 40 = .ok (.iconst 1, 1) := by decide +kernel
theorem dX9_keep_41 : decode cX9_keep 41 = .ok (.putfield 102, 3) := by decide +kernel
theorem dX9_keep_44 : decode cX9_keep 44 = .ok (.aload_n 0, 1) := by decide +kernel
theorem dX9_keep_45 : decode cX9_keep 45 = .ok (.getfield 82, 3) := by decide +kernel
theorem dX9_keep_48 : decode cX9_keep 48 = .ok (.iload_n 1, 1) := by decide +kernel
theorem dX9_keep_49 : decode cX9_keep 49 = .ok (.aaload, 1) := by decide +kernel
theorem dX9_keep_50 : decode cX9_keep 50 = .ok (.iload_n 2, 1) := by decide +kernel
theorem dX9_keep_51 : decode cX9_keep 51 = .ok (.putfield 289, 3) := by decide +kernel
theorem dX9_keep_54 : decode cX9_keep 54 = .ok (.iconst 1, 1) := by decide +kernel
theorem dX9_keep_55 : decode cX9_keep 55 = .ok (.ireturn, 1) := by decide +kernel
theorem dX9_row_0 : decode cX9_row 0 = .ok (.iload_n 1, 1) := by decide +kernel
theorem dX9_row_1 : decode cX9_row 1 = .ok (.invokestatic 98, 3) := by decide +kernel
theorem dX9_row_4 : decode cX9_row 4 = .ok (.ifCond .eq 18, 3) := by decide +kernel
theorem dX9_row_7 : decode cX9_row 7 = .ok (.iload_n 2, 1) := by decide +kernel
theorem dX9_row_8 : decode cX9_row 8 = .ok (.ifCond .lt 14, 3) := by decide +kernel
theorem dX9_row_11 : decode cX9_row 11 = .ok (.iload_n 2, 1) := by decide +kernel
theorem dX9_row_12 : decode cX9_row 12 = .ok (.iconst 4, 1) := by decide +kernel
theorem dX9_row_13 : decode cX9_row 13 = .ok (.if_icmp .gt 9, 3) := by decide +kernel
theorem dX9_row_16 : decode cX9_row 16 = .ok (.iload_n 3, 1) := by decide +kernel
theorem dX9_row_17 : decode cX9_row 17 = .ok (.bipush 60, 2) := by decide +kernel
theorem dX9_row_19 : decode cX9_row 19 = .ok (.if_icmp .le 5, 3) := by decide +kernel
theorem dX9_row_22 : decode cX9_row 22 = .ok (.iconst (-1), 1) := by decide +kernel
theorem dX9_row_23 : decode cX9_row 23 = .ok (.ireturn, 1) := by decide +kernel
theorem dX9_row_24 : decode cX9_row 24 = .ok (.iload_n 3, 1) := by decide +kernel
theorem dX9_row_25 : decode cX9_row 25 = .ok (.ifCond .ge 6, 3) := by decide +kernel
theorem dX9_row_28 : decode cX9_row 28 = .ok (.bipush (-14), 2) := by decide +kernel
theorem dX9_row_30 : decode cX9_row 30 = .ok (.ireturn, 1) := by decide +kernel
theorem dX9_row_31 : decode cX9_row 31 = .ok (.aload_n 0, 1) := by decide +kernel
theorem dX9_row_32 : decode cX9_row 32 = .ok (.getfield 82, 3) := by decide +kernel
theorem dX9_row_35 : decode cX9_row 35 = .ok (.iload_n 1, 1) := by decide +kernel
theorem dX9_row_36 : decode cX9_row 36 = .ok (.aaload, 1) := by decide +kernel
theorem dX9_row_37 : decode cX9_row 37 = .ok (.iload_n 2, 1) := by decide +kernel
theorem dX9_row_38 : decode cX9_row 38 = .ok (.iload_n 3, 1) := by decide +kernel
theorem dX9_row_39 : decode cX9_row 39 = .ok (.invokevirtual 292, 3) := by decide +kernel
theorem dX9_row_42 : decode cX9_row 42 = .ok (.iconst 1, 1) := by decide +kernel
theorem dX9_row_43 : decode cX9_row 43 = .ok (.ireturn, 1) := by decide +kernel
theorem dX9_put_0 : decode cX9_put 0 = .ok (.iload_n 1, 1) := by decide +kernel
theorem dX9_put_1 : decode cX9_put 1 = .ok (.invokestatic 98, 3) := by decide +kernel
theorem dX9_put_4 : decode cX9_put 4 = .ok (.ifCond .ne 5, 3) := by decide +kernel
theorem dX9_put_7 : decode cX9_put 7 = .ok (.iconst (-1), 1) := by decide +kernel
theorem dX9_put_8 : decode cX9_put 8 = .ok (.ireturn, 1) := by decide +kernel
theorem dX9_put_9 : decode cX9_put 9 = .ok (.aload_n 0, 1) := by decide +kernel
theorem dX9_put_10 : decode cX9_put 10 = .ok (.getfield 82, 3) := by decide +kernel
theorem dX9_put_13 : decode cX9_put 13 = .ok (.iload_n 1, 1) := by decide +kernel
theorem dX9_put_14 : decode cX9_put 14 = .ok (.aaload, 1) := by decide +kernel
theorem dX9_put_15 : decode cX9_put 15 = .ok (.iload_n 2, 1) := by decide +kernel
theorem dX9_put_16 : decode cX9_put 16 = .ok (.invokestatic 295, 3) := by decide +kernel
theorem dX9_put_19 : decode cX9_put 19 = .ok (.istore 5, 2) := by decide +kernel
theorem dX9_put_21 : decode cX9_put 21 = .ok (.iload 5, 2) := by decide +kernel
theorem dX9_put_23 : decode cX9_put 23 = .ok (.ifCond .eq 6, 3) := by decide +kernel
theorem dX9_put_26 : decode cX9_put 26 = .ok (.iload 5, 2) := by decide +kernel
theorem dX9_put_28 : decode cX9_put 28 = .ok (.ireturn, 1) := by decide +kernel
theorem dX9_put_29 : decode cX9_put 29 = .ok (.aload_n 0, 1) := by decide +kernel
theorem dX9_put_30 : decode cX9_put 30 = .ok (.getfield 82, 3) := by decide +kernel
theorem dX9_put_33 : decode cX9_put 33 = .ok (.iload_n 1, 1) := by decide +kernel
theorem dX9_put_34 : decode cX9_put 34 = .ok (.aaload, 1) := by decide +kernel
theorem dX9_put_35 : decode cX9_put 35 = .ok (.getfield 299, 3) := by decide +kernel
theorem dX9_put_38 : decode cX9_put 38 = .ok (.iload_n 2, 1) := by decide +kernel
theorem dX9_put_39 : decode cX9_put 39 = .ok (.aload_n 0, 1) := by decide +kernel
theorem dX9_put_40 : decode cX9_put 40 = .ok (.getfield 82, 3) := by decide +kernel
theorem dX9_put_43 : decode cX9_put 43 = .ok (.iload_n 1, 1) := by decide +kernel
theorem dX9_put_44 : decode cX9_put 44 = .ok (.aaload, 1) := by decide +kernel
theorem dX9_put_45 : decode cX9_put 45 = .ok (.lload_n 3, 1) := by decide +kernel
theorem dX9_put_46 : decode cX9_put 46 = .ok (.invokevirtual 303, 3) := by decide +kernel
theorem dX9_put_49 : decode cX9_put 49 = .ok (.lastore, 1) := by decide +kernel
theorem dX9_put_50 : decode cX9_put 50 = .ok (.iconst 1, 1) := by decide +kernel
theorem dX9_put_51 : decode cX9_put 51 = .ok (.ireturn, 1) := by decide +kernel
theorem dX9_element_0 : decode cX9_element 0 = .ok (.iload_n 1, 1) := by decide +kernel
theorem dX9_element_1 : decode cX9_element 1 = .ok (.invokestatic 98, 3) := by decide +kernel
theorem dX9_element_4 : decode cX9_element 4 = .ok (.ifCond .eq 16, 3) := by decide +kernel
theorem dX9_element_7 : decode cX9_element 7 = .ok (.aload_n 0, 1) := by decide +kernel
theorem dX9_element_8 : decode cX9_element 8 = .ok (.getfield 82, 3) := by decide +kernel
theorem dX9_element_11 : decode cX9_element 11 = .ok (.iload_n 1, 1) := by decide +kernel
theorem dX9_element_12 : decode cX9_element 12 = .ok (.aaload, 1) := by decide +kernel
theorem dX9_element_13 : decode cX9_element 13 = .ok (.iload_n 2, 1) := by decide +kernel
theorem dX9_element_14 : decode cX9_element 14 = .ok (.invokestatic 295, 3) := by decide +kernel
theorem dX9_element_17 : decode cX9_element 17 = .ok (.ifCond .eq 7, 3) := by decide +kernel
theorem dX9_element_20 : decode cX9_element 20 = .ok (.ldc2_w 309, 3) := by decide +kernel
theorem dX9_element_23 : decode cX9_element 23 = .ok (.lreturn, 1) := by decide +kernel
theorem dX9_element_24 : decode cX9_element 24 = .ok (.aload_n 0, 1) := by decide +kernel
theorem dX9_element_25 : decode cX9_element 25 = .ok (.getfield 82, 3) := by decide +kernel
theorem dX9_element_28 : decode cX9_element 28 = .ok (.iload_n 1, 1) := by decide +kernel
theorem dX9_element_29 : decode cX9_element 29 = .ok (.aaload, 1) := by decide +kernel
theorem dX9_element_30 : decode cX9_element 30 = .ok (.getfield 299, 3) := by decide +kernel
theorem dX9_element_33 : decode cX9_element 33 = .ok (.iload_n 2, 1) := by decide +kernel
theorem dX9_element_34 : decode cX9_element 34 = .ok (.laload, 1) := by decide +kernel
theorem dX9_element_35 : decode cX9_element 35 = .ok (.lreturn, 1) := by decide +kernel
theorem dX9_shift_0 : decode cX9_shift 0 = .ok (.iload_n 1, 1) := by decide +kernel
theorem dX9_shift_1 : decode cX9_shift 1 = .ok (.invokestatic 98, 3) := by decide +kernel
theorem dX9_shift_4 : decode cX9_shift 4 = .ok (.ifCond .eq 10, 3) := by decide +kernel
theorem dX9_shift_7 : decode cX9_shift 7 = .ok (.iload_n 3, 1) := by decide +kernel
theorem dX9_shift_8 : decode cX9_shift 8 = .ok (.invokestatic 98, 3) := by decide +kernel
theorem dX9_shift_11 : decode cX9_shift 11 = .ok (.ifCond .ne 5, 3) := by decide +kernel
theorem dX9_shift_14 : decode cX9_shift 14 = .ok (.iconst (-1), 1) := by decide +kernel
theorem dX9_shift_15 : decode cX9_shift 15 = .ok (.ireturn, 1) := by decide +kernel
theorem dX9_shift_16 : decode cX9_shift 16 = .ok (.aload_n 0, 1) := by decide +kernel
theorem dX9_shift_17 : decode cX9_shift 17 = .ok (.getfield 82, 3) := by decide +kernel
theorem dX9_shift_20 : decode cX9_shift 20 = .ok (.iload_n 1, 1) := by decide +kernel
theorem dX9_shift_21 : decode cX9_shift 21 = .ok (.aaload, 1) := by decide +kernel
theorem dX9_shift_22 : decode cX9_shift 22 = .ok (.astore 6, 2) := by decide +kernel
theorem dX9_shift_24 : decode cX9_shift 24 = .ok (.aload_n 0, 1) := by decide +kernel
theorem dX9_shift_25 : decode cX9_shift 25 = .ok (.getfield 82, 3) := by decide +kernel
theorem dX9_shift_28 : decode cX9_shift 28 = .ok (.iload_n 3, 1) := by decide +kernel
theorem dX9_shift_29 : decode cX9_shift 29 = .ok (.aaload, 1) := by decide +kernel
theorem dX9_shift_30 : decode cX9_shift 30 = .ok (.astore 7, 2) := by decide +kernel
theorem dX9_shift_32 : decode cX9_shift 32 = .ok (.aload 6, 2) := by decide +kernel
theorem dX9_shift_34 : decode cX9_shift 34 = .ok (.getfield 102, 3) := by decide +kernel
theorem dX9_shift_37 : decode cX9_shift 37 = .ok (.ifCond .eq 11, 3) := by decide +kernel
theorem dX9_shift_40 : decode cX9_shift 40 = .ok (.aload 7, 2) := by decide +kernel
theorem dX9_shift_42 : decode cX9_shift 42 = .ok (.getfield 102, 3) := by decide +kernel
theorem dX9_shift_45 : decode cX9_shift 45 = .ok (.ifCond .ne 6, 3) := by decide +kernel
theorem dX9_shift_48 : decode cX9_shift 48 = .ok (.bipush (-11), 2) := by decide +kernel
theorem dX9_shift_50 : decode cX9_shift 50 = .ok (.ireturn, 1) := by decide +kernel
theorem dX9_shift_51 : decode cX9_shift 51 = .ok (.aload 6, 2) := by decide +kernel
theorem dX9_shift_53 : decode cX9_shift 53 = .ok (.getfield 102, 3) := by decide +kernel
theorem dX9_shift_56 : decode cX9_shift 56 = .ok (.iconst 2, 1) := by decide +kernel
theorem dX9_shift_57 : decode cX9_shift 57 = .ok (.if_icmp .ne 16, 3) := by decide +kernel
theorem dX9_shift_60 : decode cX9_shift 60 = .ok (.aload 7, 2) := by decide +kernel
theorem dX9_shift_62 : decode cX9_shift 62 = .ok (.aload 6, 2) := by decide +kernel
theorem dX9_shift_64 : decode cX9_shift 64 = .ok (.getfield 311, 3) := by decide +kernel
theorem dX9_shift_67 : decode cX9_shift 67 = .ok (.invokevirtual 105, 3) := by decide +kernel
theorem dX9_shift_70 : decode cX9_shift 70 = .ok (.ifCond .ne 6, 3) := by decide +kernel
theorem dX9_shift_73 : decode cX9_shift 73 = .ok (.bipush (-12), 2) := by decide +kernel
theorem dX9_shift_75 : decode cX9_shift 75 = .ok (.ireturn, 1) := by decide +kernel
theorem dX9_shift_76 : decode cX9_shift 76 = .ok (.aload 6, 2) := by decide +kernel
theorem dX9_shift_78 : decode cX9_shift 78 = .ok (.iload_n 2, 1) := by decide +kernel
theorem dX9_shift_79 : decode cX9_shift 79 = .ok (.iload 5, 2) := by decide +kernel
theorem dX9_shift_81 : decode cX9_shift 81 = .ok (.invokevirtual 314, 3) := by decide +kernel
theorem dX9_shift_84 : decode cX9_shift 84 = .ok (.ifCond .eq 15, 3) := by decide +kernel
theorem dX9_shift_87 : decode cX9_shift 87 = .ok (.aload 7, 2) := by decide +kernel
theorem dX9_shift_89 : decode cX9_shift 89 = .ok (.iload 4, 2) := by decide +kernel
theorem dX9_shift_91 : decode cX9_shift 91 = .ok (.iload 5, 2) := by decide +kernel
theorem dX9_shift_93 : decode cX9_shift 93 = .ok (.invokevirtual 314, 3) := by decide +kernel
theorem dX9_shift_96 : decode cX9_shift 96 = .ok (.ifCond .ne 6, 3) := by decide +kernel
theorem dX9_shift_99 : decode cX9_shift 99 = .ok (.bipush (-13), 2) := by decide +kernel
theorem dX9_shift_101 : decode cX9_shift 101 = .ok (.ireturn, 1) := by decide +kernel
theorem dX9_shift_102 : decode cX9_shift 102 = .ok (.aload 6, 2) := by decide +kernel
theorem dX9_shift_104 : decode cX9_shift 104 = .ok (.getfield 299, 3) := by decide +kernel
theorem dX9_shift_107 : decode cX9_shift 107 = .ok (.iload_n 2, 1) := by decide +kernel
theorem dX9_shift_108 : decode cX9_shift 108 = .ok (.aload 7, 2) := by decide +kernel
theorem dX9_shift_110 : decode cX9_shift 110 = .ok (.getfield 299, 3) := by decide +kernel
theorem dX9_shift_113 : decode cX9_shift 113 = .ok (.iload 4, 2) := by decide +kernel
theorem dX9_shift_115 : decode cX9_shift 115 = .ok (.iload 5, 2) := by decide +kernel
theorem dX9_shift_117 : decode cX9_shift 117 = .ok (.invokestatic 317, 3) := by decide +kernel
theorem dX9_shift_120 : decode cX9_shift 120 = .ok (.iload 5, 2) := by decide +kernel
theorem dX9_shift_122 : decode cX9_shift 122 = .ok (.ireturn, 1) := by decide +kernel
theorem dX9_taken_0 : decode cX9_taken 0 = .ok (.iload_n 1, 1) := by decide +kernel
theorem dX9_taken_1 : decode cX9_taken 1 = .ok (.invokestatic 98, 3) := by decide +kernel
theorem dX9_taken_4 : decode cX9_taken 4 = .ok (.ifCond .eq 10, 3) := by decide +kernel
theorem dX9_taken_7 : decode cX9_taken 7 = .ok (.iload_n 2, 1) := by decide +kernel
theorem dX9_taken_8 : decode cX9_taken 8 = .ok (.invokestatic 269, 3) := by decide +kernel
theorem dX9_taken_11 : decode cX9_taken 11 = .ok (.ifCond .ne 5, 3) := by decide +kernel
theorem dX9_taken_14 : decode cX9_taken 14 = .ok (.iconst (-1), 1) := by decide +kernel
theorem dX9_taken_15 : decode cX9_taken 15 = .ok (.ireturn, 1) := by decide +kernel
theorem dX9_taken_16 : decode cX9_taken 16 = .ok (.aload_n 0, 1) := by decide +kernel
theorem dX9_taken_17 : decode cX9_taken 17 = .ok (.getfield 82, 3) := by decide +kernel
theorem dX9_taken_20 : decode cX9_taken 20 = .ok (.iload_n 1, 1) := by decide +kernel
theorem dX9_taken_21 : decode cX9_taken 21 = .ok (.aaload, 1) := by decide +kernel
theorem dX9_taken_22 : decode cX9_taken 22 = .ok (.astore_n 3, 1) := by decide +kernel
theorem dX9_taken_23 : decode cX9_taken 23 = .ok (.aload_n 3, 1) := by decide +kernel
theorem dX9_taken_24 : decode cX9_taken 24 = .ok (.getfield 102, 3) := by decide +kernel
theorem dX9_taken_27 : decode cX9_taken 27 = .ok (.ifCond .ne 6, 3) := by decide +kernel
theorem dX9_taken_30 : decode cX9_taken 30 = .ok (.bipush (-11), 2) := by decide +kernel
theorem dX9_taken_32 : decode cX9_taken 32 = .ok (.ireturn, 1) := by decide +kernel
theorem dX9_taken_33 : decode cX9_taken 33 = .ok (.aload_n 3, 1) := by decide +kernel
theorem dX9_taken_34 : decode cX9_taken 34 = .ok (.getfield 102, 3) := by decide +kernel
theorem dX9_taken_37 : decode cX9_taken 37 = .ok (.iconst 1, 1) := by decide +kernel
theorem dX9_taken_38 : decode cX9_taken 38 = .ok (.if_icmp .ne 18, 3) := by decide +kernel
theorem dX9_taken_41 : decode cX9_taken 41 = .ok (.aload_n 0, 1) := by decide +kernel
theorem dX9_taken_42 : decode cX9_taken 42 = .ok (.getfield 76, 3) := by decide +kernel
theorem dX9_taken_45 : decode cX9_taken 45 = .ok (.aload_n 3, 1) := by decide +kernel
theorem dX9_taken_46 : decode cX9_taken 46 = .ok (.getfield 289, 3) := by decide +kernel
theorem dX9_taken_49 : decode cX9_taken 49 = .ok (.iload_n 2, 1) := by decide +kernel
theorem dX9_taken_50 : decode cX9_taken 50 = .ok (.invokevirtual 323, 3) := by decide +kernel
theorem dX9_taken_53 : decode cX9_taken 53 = .ok (.ifCond .ne 6, 3) := by decide +kernel
theorem dX9_taken_56 : decode cX9_taken 56 = .ok (.bipush (-12), 2) := by decide +kernel
theorem dX9_taken_58 : decode cX9_taken 58 = .ok (.ireturn, 1) := by decide +kernel
theorem dX9_taken_59 : decode cX9_taken 59 = .ok (.aload_n 0, 1) := by decide +kernel
theorem dX9_taken_60 : decode cX9_taken 60 = .ok (.getfield 76, 3) := by decide +kernel
theorem dX9_taken_63 : decode cX9_taken 63 = .ok (.getfield 326, 3) := by decide +kernel
theorem dX9_taken_66 : decode cX9_taken 66 = .ok (.aload_n 3, 1) := by decide +kernel
theorem dX9_taken_67 : decode cX9_taken 67 = .ok (.getfield 289, 3) := by decide +kernel
theorem dX9_taken_70 : decode cX9_taken 70 = .ok (.iaload, 1) := by decide +kernel
theorem dX9_taken_71 : decode cX9_taken 71 = .ok (.ireturn, 1) := by decide +kernel
theorem dX9_count_0 : decode cX9_count 0 = .ok (.iload_n 1, 1) := by decide +kernel
theorem dX9_count_1 : decode cX9_count 1 = .ok (.tableswitch 84 0 5 #[39, 47, 55, 60, 68, 76], 39) := by decide +kernel
theorem dX9_count_40 : decode cX9_count 40 = .ok (.aload_n 0, 1) := by decide +kernel
theorem dX9_count_41 : decode cX9_count 41 = .ok (.getfield 10, 3) := by decide +kernel
theorem dX9_count_44 : decode cX9_count 44 = .ok (.getfield 91, 3) := by decide +kernel
theorem dX9_count_47 : decode cX9_count 47 = .ok (.ireturn, 1) := by decide +kernel
theorem dX9_count_48 : decode cX9_count 48 = .ok (.aload_n 0, 1) := by decide +kernel
theorem dX9_count_49 : decode cX9_count 49 = .ok (.getfield 10, 3) := by decide +kernel
theorem dX9_count_52 : decode cX9_count 52 = .ok (.getfield 117, 3) := by decide +kernel
theorem dX9_count_55 : decode cX9_count 55 = .ok (.ireturn, 1) := by decide +kernel
theorem dX9_count_56 : decode cX9_count 56 = .ok (.aload_n 0, 1) := by decide +kernel
theorem dX9_count_57 : decode cX9_count 57 = .ok (.getfield 20, 3) := by decide +kernel
theorem dX9_count_60 : decode cX9_count 60 = .ok (.ireturn, 1) := by decide +kernel
theorem dX9_count_61 : decode cX9_count 61 = .ok (.aload_n 0, 1) := by decide +kernel
theorem dX9_count_62 : decode cX9_count 62 = .ok (.getfield 69, 3) := by decide +kernel
theorem dX9_count_65 : decode cX9_count 65 = .ok (.getfield 329, 3) := by decide +kernel
theorem dX9_count_68 : decode cX9_count 68 = .ok (.ireturn, 1) := by decide +kernel
theorem dX9_count_69 : decode cX9_count 69 = .ok (.aload_n 0, 1) := by decide +kernel
theorem dX9_count_70 : decode cX9_count 70 = .ok (.getfield 76, 3) := by decide +kernel
theorem dX9_count_73 : decode cX9_count 73 = .ok (.getfield 272, 3) := by decide +kernel
theorem dX9_count_76 : decode cX9_count 76 = .ok (.ireturn, 1) := by decide +kernel
theorem dX9_count_77 : decode cX9_count 77 = .ok (.aload_n 0, 1) := by decide +kernel
theorem dX9_count_78 : decode cX9_count 78 = .ok (.getfield 76, 3) := by decide +kernel
theorem dX9_count_81 : decode cX9_count 81 = .ok (.getfield 280, 3) := by decide +kernel
theorem dX9_count_84 : decode cX9_count 84 = .ok (.ireturn, 1) := by decide +kernel
theorem dX9_count_85 : decode cX9_count 85 = .ok (.iconst (-1), 1) := by decide +kernel
theorem dX9_count_86 : decode cX9_count 86 = .ok (.ireturn, 1) := by decide +kernel
theorem dX9_isWithin_0 : decode cX9_isWithin 0 = .ok (.iload_n 1, 1) := by decide +kernel
theorem dX9_isWithin_1 : decode cX9_isWithin 1 = .ok (.ifCond .lt 33, 3) := by decide +kernel
theorem dX9_isWithin_4 : decode cX9_isWithin 4 = .ok (.iload_n 1, 1) := by decide +kernel
theorem dX9_isWithin_5 : decode cX9_isWithin 5 = .ok (.getstatic 206, 3) := by decide +kernel
theorem dX9_isWithin_8 : decode cX9_isWithin 8 = .ok (.arraylength, 1) := by decide +kernel
theorem dX9_isWithin_9 : decode cX9_isWithin 9 = .ok (.if_icmp .ge 25, 3) := by decide +kernel
theorem dX9_isWithin_12 : decode cX9_isWithin 12 = .ok (.iload_n 0, 1) := by decide +kernel
theorem dX9_isWithin_13 : decode cX9_isWithin 13 = .ok (.getstatic 206, 3) := by decide +kernel
theorem dX9_isWithin_16 : decode cX9_isWithin 16 = .ok (.iload_n 1, 1) := by decide +kernel
theorem dX9_isWithin_17 : decode cX9_isWithin 17 = .ok (.iaload, 1) := by decide +kernel
theorem dX9_isWithin_18 : decode cX9_isWithin 18 = .ok (.if_icmp .lt 16, 3) := by decide +kernel
theorem dX9_isWithin_21 : decode cX9_isWithin 21 = .ok (.iload_n 0, 1) := by decide +kernel
theorem dX9_isWithin_22 : decode cX9_isWithin 22 = .ok (.getstatic 203, 3) := by decide +kernel
theorem dX9_isWithin_25 : decode cX9_isWithin 25 = .ok (.iload_n 1, 1) := by decide +kernel
theorem dX9_isWithin_26 : decode cX9_isWithin 26 = .ok (.iaload, 1) := by decide +kernel
theorem dX9_isWithin_27 : decode cX9_isWithin 27 = .ok (.if_icmp .gt 7, 3) := by decide +kernel
theorem dX9_isWithin_30 : decode cX9_isWithin 30 = .ok (.iconst 1, 1) := by decide +kernel
theorem dX9_isWithin_31 : decode cX9_isWithin 31 = .ok (.goto 4, 3) := by decide +kernel
theorem dX9_isWithin_34 : decode cX9_isWithin 34 = .ok (.iconst 0, 1) := by decide +kernel
theorem dX9_isWithin_35 : decode cX9_isWithin 35 = .ok (.ireturn, 1) := by decide +kernel
theorem dX9_isThought_0 : decode cX9_isThought 0 = .ok (.iload_n 0, 1) := by decide +kernel
theorem dX9_isThought_1 : decode cX9_isThought 1 = .ok (.ifCond .lt 13, 3) := by decide +kernel
theorem dX9_isThought_4 : decode cX9_isThought 4 = .ok (.iload_n 0, 1) := by decide +kernel
theorem dX9_isThought_5 : decode cX9_isThought 5 = .ok (.bipush 60, 2) := by decide +kernel
theorem dX9_isThought_7 : decode cX9_isThought 7 = .ok (.if_icmp .gt 7, 3) := by decide +kernel
theorem dX9_isThought_10 : decode cX9_isThought 10 = .ok (.iconst 1, 1) := by decide +kernel
theorem dX9_isThought_11 : decode cX9_isThought 11 = .ok (.goto 4, 3) := by decide +kernel
theorem dX9_isThought_14 : decode cX9_isThought 14 = .ok (.iconst 0, 1) := by decide +kernel
theorem dX9_isThought_15 : decode cX9_isThought 15 = .ok (.ireturn, 1) := by decide +kernel
theorem dX9_isChoiceOfTwo_0 : decode cX9_isChoiceOfTwo 0 = .ok (.iload_n 0, 1) := by decide +kernel
theorem dX9_isChoiceOfTwo_1 : decode cX9_isChoiceOfTwo 1 = .ok (.ifCond .eq 8, 3) := by decide +kernel
theorem dX9_isChoiceOfTwo_4 : decode cX9_isChoiceOfTwo 4 = .ok (.iload_n 0, 1) := by decide +kernel
theorem dX9_isChoiceOfTwo_5 : decode cX9_isChoiceOfTwo 5 = .ok (.iconst 1, 1) := by decide +kernel
theorem dX9_isChoiceOfTwo_6 : decode cX9_isChoiceOfTwo 6 = .ok (.if_icmp .ne 7, 3) := by decide +kernel
theorem dX9_isChoiceOfTwo_9 : decode cX9_isChoiceOfTwo 9 = .ok (.iconst 1, 1) := by decide +kernel
theorem dX9_isChoiceOfTwo_10 : decode cX9_isChoiceOfTwo 10 = .ok (.goto 4, 3) := by decide +kernel
theorem dX9_isChoiceOfTwo_13 : decode cX9_isChoiceOfTwo 13 = .ok (.iconst 0, 1) := by decide +kernel
theorem dX9_isChoiceOfTwo_14 : decode cX9_isChoiceOfTwo 14 = .ok (.ireturn, 1) := by decide +kernel
theorem dX9_isShelf_0 : decode cX9_isShelf 0 = .ok (.iload_n 0, 1) := by decide +kernel
theorem dX9_isShelf_1 : decode cX9_isShelf 1 = .ok (.ifCond .lt 13, 3) := by decide +kernel
theorem dX9_isShelf_4 : decode cX9_isShelf 4 = .ok (.iload_n 0, 1) := by decide +kernel
theorem dX9_isShelf_5 : decode cX9_isShelf 5 = .ok (.bipush 6, 2) := by decide +kernel
theorem dX9_isShelf_7 : decode cX9_isShelf 7 = .ok (.if_icmp .ge 7, 3) := by decide +kernel
theorem dX9_isShelf_10 : decode cX9_isShelf 10 = .ok (.iconst 1, 1) := by decide +kernel
theorem dX9_isShelf_11 : decode cX9_isShelf 11 = .ok (.goto 4, 3) := by decide +kernel
theorem dX9_isShelf_14 : decode cX9_isShelf 14 = .ok (.iconst 0, 1) := by decide +kernel
theorem dX9_isShelf_15 : decode cX9_isShelf 15 = .ok (.ireturn, 1) := by decide +kernel
theorem dX9_refusalOfBytes_0 : decode cX9_refusalOfBytes 0 = .ok (.aload_n 0, 1) := by decide +kernel
theorem dX9_refusalOfBytes_1 : decode cX9_refusalOfBytes 1 = .ok (.getfield 102, 3) := by decide +kernel
theorem dX9_refusalOfBytes_4 : decode cX9_refusalOfBytes 4 = .ok (.ifCond .ne 6, 3) := by decide +kernel
theorem dX9_refusalOfBytes_7 : decode cX9_refusalOfBytes 7 = .ok (.bipush (-11), 2) := by decide +kernel
theorem dX9_refusalOfBytes_9 : decode cX9_refusalOfBytes 9 = .ok (.ireturn, 1) := by decide +kernel
theorem dX9_refusalOfBytes_10 : decode cX9_refusalOfBytes 10 = .ok (.aload_n 0, 1) := by decide +kernel
theorem dX9_refusalOfBytes_11 : decode cX9_refusalOfBytes 11 = .ok (.iconst 0, 1) := by decide +kernel
theorem dX9_refusalOfBytes_12 : decode cX9_refusalOfBytes 12 = .ok (.invokevirtual 105, 3) := by decide +kernel
theorem dX9_refusalOfBytes_15 : decode cX9_refusalOfBytes 15 = .ok (.ifCond .eq 7, 3) := by decide +kernel
theorem dX9_refusalOfBytes_18 : decode cX9_refusalOfBytes 18 = .ok (.iconst 0, 1) := by decide +kernel
theorem dX9_refusalOfBytes_19 : decode cX9_refusalOfBytes 19 = .ok (.goto 5, 3) := by decide +kernel
theorem dX9_refusalOfBytes_22 : decode cX9_refusalOfBytes 22 = .ok (.bipush (-12), 2) := by decide +kernel
theorem dX9_refusalOfBytes_24 : decode cX9_refusalOfBytes 24 = .ok (.ireturn, 1) := by decide +kernel
theorem dX9_refusalOfPlace_0 : decode cX9_refusalOfPlace 0 = .ok (.aload_n 0, 1) := by decide +kernel
theorem dX9_refusalOfPlace_1 : decode cX9_refusalOfPlace 1 = .ok (.getfield 102, 3) := by decide +kernel
theorem dX9_refusalOfPlace_4 : decode cX9_refusalOfPlace 4 = .ok (.ifCond .ne 6, 3) := by decide +kernel
theorem dX9_refusalOfPlace_7 : decode cX9_refusalOfPlace 7 = .ok (.bipush (-11), 2) := by decide +kernel
theorem dX9_refusalOfPlace_9 : decode cX9_refusalOfPlace 9 = .ok (.ireturn, 1) := by decide +kernel
theorem dX9_refusalOfPlace_10 : decode cX9_refusalOfPlace 10 = .ok (.aload_n 0, 1) := by decide +kernel
theorem dX9_refusalOfPlace_11 : decode cX9_refusalOfPlace 11 = .ok (.getfield 102, 3) := by decide +kernel
theorem dX9_refusalOfPlace_14 : decode cX9_refusalOfPlace 14 = .ok (.iconst 2, 1) := by decide +kernel
theorem dX9_refusalOfPlace_15 : decode cX9_refusalOfPlace 15 = .ok (.if_icmp .eq 6, 3) := by decide +kernel
theorem dX9_refusalOfPlace_18 : decode cX9_refusalOfPlace 18 = .ok (.bipush (-12), 2) := by decide +kernel
theorem dX9_refusalOfPlace_20 : decode cX9_refusalOfPlace 20 = .ok (.ireturn, 1) := by decide +kernel
theorem dX9_refusalOfPlace_21 : decode cX9_refusalOfPlace 21 = .ok (.iload_n 1, 1) := by decide +kernel
theorem dX9_refusalOfPlace_22 : decode cX9_refusalOfPlace 22 = .ok (.ifCond .lt 15, 3) := by decide +kernel
theorem dX9_refusalOfPlace_25 : decode cX9_refusalOfPlace 25 = .ok (.iload_n 1, 1) := by decide +kernel
theorem dX9_refusalOfPlace_26 : decode cX9_refusalOfPlace 26 = .ok (.aload_n 0, 1) := by decide +kernel
theorem dX9_refusalOfPlace_27 : decode cX9_refusalOfPlace 27 = .ok (.getfield 332, 3) := by decide +kernel
theorem dX9_refusalOfPlace_30 : decode cX9_refusalOfPlace 30 = .ok (.if_icmp .ge 7, 3) := by decide +kernel
theorem dX9_refusalOfPlace_33 : decode cX9_refusalOfPlace 33 = .ok (.iconst 0, 1) := by decide +kernel
theorem dX9_refusalOfPlace_34 : decode cX9_refusalOfPlace 34 = .ok (.goto 5, 3) := by decide +kernel
theorem dX9_refusalOfPlace_37 : decode cX9_refusalOfPlace 37 = .ok (.bipush (-13), 2) := by decide +kernel
theorem dX9_refusalOfPlace_39 : decode cX9_refusalOfPlace 39 = .ok (.ireturn, 1) := by decide +kernel
theorem dX9_guestComes_0 : decode cX9_guestComes 0 = .ok (.lload_n 2, 1) := by decide +kernel
theorem dX9_guestComes_1 : decode cX9_guestComes 1 = .ok (.lconst 0, 1) := by decide +kernel
theorem dX9_guestComes_2 : decode cX9_guestComes 2 = .ok (.lcmp, 1) := by decide +kernel
theorem dX9_guestComes_3 : decode cX9_guestComes 3 = .ok (.ifCond .lt 29, 3) := by decide +kernel
theorem dX9_guestComes_6 : decode cX9_guestComes 6 = .ok (.lload_n 2, 1) := by decide +kernel
theorem dX9_guestComes_7 : decode cX9_guestComes 7 = .ok (.ldc2_w 335, 3) := by decide +kernel
theorem dX9_guestComes_10 : decode cX9_guestComes 10 = .ok (.ladd, 1) := by decide +kernel
theorem dX9_guestComes_11 : decode cX9_guestComes 11 = .ok (.aload_n 1, 1) := by decide +kernel
theorem dX9_guestComes_12 : decode cX9_guestComes 12 = .ok (.getfield 332, 3) := by decide +kernel
theorem dX9_guestComes_15 : decode cX9_guestComes 15 = .ok (.i2l, 1) := by decide +kernel
theorem dX9_guestComes_16 : decode cX9_guestComes 16 = .ok (.lcmp, 1) := by decide +kernel
theorem dX9_guestComes_17 : decode cX9_guestComes 17 = .ok (.ifCond .ge 15, 3) := by decide +kernel
theorem dX9_guestComes_20 : decode cX9_guestComes 20 = .ok (.aload_n 0, 1) := by decide +kernel
theorem dX9_guestComes_21 : decode cX9_guestComes 21 = .ok (.getfield 10, 3) := by decide +kernel
theorem dX9_guestComes_24 : decode cX9_guestComes 24 = .ok (.getfield 91, 3) := by decide +kernel
theorem dX9_guestComes_27 : decode cX9_guestComes 27 = .ok (.bipush 9, 2) := by decide +kernel
theorem dX9_guestComes_29 : decode cX9_guestComes 29 = .ok (.if_icmp .lt 5, 3) := by decide +kernel
theorem dX9_guestComes_32 : decode cX9_guestComes 32 = .ok (.iconst 0, 1) := by decide +kernel
theorem dX9_guestComes_33 : decode cX9_guestComes 33 = .ok (.ireturn, 1) := by decide +kernel
theorem dX9_guestComes_34 : decode cX9_guestComes 34 = .ok (.lload_n 2, 1) := by decide +kernel
theorem dX9_guestComes_35 : decode cX9_guestComes 35 = .ok (.l2i, 1) := by decide +kernel
theorem dX9_guestComes_36 : decode cX9_guestComes 36 = .ok (.istore 4, 2) := by decide +kernel
theorem dX9_guestComes_38 : decode cX9_guestComes 38 = .ok (.iconst 0, 1) := by decide +kernel
theorem dX9_guestComes_39 : decode cX9_guestComes 39 = .ok (.istore 5, 2) := by decide +kernel
theorem dX9_guestComes_41 : decode cX9_guestComes 41 = .ok (.iload 5, 2) := by decide +kernel
theorem dX9_guestComes_43 : decode cX9_guestComes 43 = .ok (.iconst 3, 1) := by decide +kernel
theorem dX9_guestComes_44 : decode cX9_guestComes 44 = .ok (.if_icmp .gt 30, 3) := by decide +kernel
theorem dX9_guestComes_47 : decode cX9_guestComes 47 = .ok (.aload_n 1, 1) := by decide +kernel
theorem dX9_guestComes_48 : decode cX9_guestComes 48 = .ok (.getfield 299, 3) := by decide +kernel
theorem dX9_guestComes_51 : decode cX9_guestComes 51 = .ok (.iload 4, 2) := by decide +kernel
theorem dX9_guestComes_53 : decode cX9_guestComes 53 = .ok (.iload 5, 2) := by decide +kernel
theorem dX9_guestComes_55 : decode cX9_guestComes 55 = .ok (.iadd, 1) := by decide +kernel
theorem dX9_guestComes_56 : decode cX9_guestComes 56 = .ok (.laload, 1) := by decide +kernel
theorem dX9_guestComes_57 : decode cX9_guestComes 57 = .ok (.l2i, 1) := by decide +kernel
theorem dX9_guestComes_58 : decode cX9_guestComes 58 = .ok (.iload 5, 2) := by decide +kernel
theorem dX9_guestComes_60 : decode cX9_guestComes 60 = .ok (.invokestatic 87, 3) := by decide +kernel
theorem dX9_guestComes_63 : decode cX9_guestComes 63 = .ok (.ifCond .ne 5, 3) := by decide +kernel
theorem dX9_guestComes_66 : decode cX9_guestComes 66 = .ok (.iconst 0, 1) := by decide +kernel
theorem dX9_guestComes_67 : decode cX9_guestComes 67 = .ok (.ireturn, 1) := by decide +kernel
theorem dX9_guestComes_68 : decode cX9_guestComes 68 = .ok (.iinc 5 1, 3) := by decide +kernel
theorem dX9_guestComes_71 : decode cX9_guestComes 71 = .ok (.goto (-30), 3) := by decide +kernel
theorem dX9_guestComes_74 : decode cX9_guestComes 74 = .ok (.aload_n 0, 1) := by decide +kernel
theorem dX9_guestComes_75 : decode cX9_guestComes 75 = .ok (.getfield 10, 3) := by decide +kernel
theorem dX9_guestComes_78 : decode cX9_guestComes 78 = .ok (.aload_n 1, 1) := by decide +kernel
theorem dX9_guestComes_79 : decode cX9_guestComes 79 = .ok (.getfield 299, 3) := by decide +kernel
theorem dX9_guestComes_82 : decode cX9_guestComes 82 = .ok (.iload 4, 2) := by decide +kernel
theorem dX9_guestComes_84 : decode cX9_guestComes 84 = .ok (.iconst 3, 1) := by decide +kernel
theorem dX9_guestComes_85 : decode cX9_guestComes 85 = .ok (.iadd, 1) := by decide +kernel
theorem dX9_guestComes_86 : decode cX9_guestComes 86 = .ok (.laload, 1) := by decide +kernel
theorem dX9_guestComes_87 : decode cX9_guestComes 87 = .ok (.l2i, 1) := by decide +kernel
theorem dX9_guestComes_88 : decode cX9_guestComes 88 = .ok (.bipush 7, 2) := by decide +kernel
theorem dX9_guestComes_90 : decode cX9_guestComes 90 = .ok (.invokevirtual 94, 3) := by decide +kernel
theorem dX9_guestComes_93 : decode cX9_guestComes 93 = .ok (.istore 5, 2) := by decide +kernel
theorem dX9_guestComes_95 : decode cX9_guestComes 95 = .ok (.iconst 0, 1) := by decide +kernel
theorem dX9_guestComes_96 : decode cX9_guestComes 96 = .ok (.istore 6, 2) := by decide +kernel
theorem dX9_guestComes_98 : decode cX9_guestComes 98 = .ok (.iload 6, 2) := by decide +kernel
theorem dX9_guestComes_100 : decode cX9_guestComes 100 = .ok (.iconst 3, 1) := by decide +kernel
theorem dX9_guestComes_101 : decode cX9_guestComes 101 = .ok (.if_icmp .ge 31, 3) := by decide +kernel
theorem dX9_guestComes_104 : decode cX9_guestComes 104 = .ok (.aload_n 0, 1) := by decide +kernel
theorem dX9_guestComes_105 : decode cX9_guestComes 105 = .ok (.getfield 10, 3) := by decide +kernel
theorem dX9_guestComes_108 : decode cX9_guestComes 108 = .ok (.iload 5, 2) := by decide +kernel
theorem dX9_guestComes_110 : decode cX9_guestComes 110 = .ok (.iload 6, 2) := by decide +kernel
theorem dX9_guestComes_112 : decode cX9_guestComes 112 = .ok (.aload_n 1, 1) := by decide +kernel
theorem dX9_guestComes_113 : decode cX9_guestComes 113 = .ok (.getfield 299, 3) := by decide +kernel
theorem dX9_guestComes_116 : decode cX9_guestComes 116 = .ok (.iload 4, 2) := by decide +kernel
theorem dX9_guestComes_118 : decode cX9_guestComes 118 = .ok (.iload 6, 2) := by decide +kernel
theorem dX9_guestComes_120 : decode cX9_guestComes 120 = .ok (.iadd, 1) := by decide +kernel
theorem dX9_guestComes_121 : decode cX9_guestComes 121 = .ok (.laload, 1) := by decide +kernel
theorem dX9_guestComes_122 : decode cX9_guestComes 122 = .ok (.l2i, 1) := by decide +kernel
theorem dX9_guestComes_123 : decode cX9_guestComes 123 = .ok (.invokevirtual 130, 3) := by decide +kernel
theorem dX9_guestComes_126 : decode cX9_guestComes 126 = .ok (.iinc 6 1, 3) := by decide +kernel
theorem dX9_guestComes_129 : decode cX9_guestComes 129 = .ok (.goto (-31), 3) := by decide +kernel
theorem dX9_guestComes_132 : decode cX9_guestComes 132 = .ok (.iconst 1, 1) := by decide +kernel
theorem dX9_guestComes_133 : decode cX9_guestComes 133 = .ok (.ireturn, 1) := by decide +kernel
theorem dX10_init_0 : decode cX10_init 0 = .ok (.aload_n 0, 1) := by decide +kernel
theorem dX10_init_1 : decode cX10_init 1 = .ok (.invokespecial 1, 3) := by decide +kernel
theorem dX10_init_4 : decode cX10_init 4 = .ok (.aload_n 0, 1) := by decide +kernel
theorem dX10_init_5 : decode cX10_init 5 = .ok (.bipush 94, 2) := by decide +kernel
theorem dX10_init_7 : decode cX10_init 7 = .ok (.newarray .int, 2) := by decide +kernel
theorem dX10_init_9 : decode cX10_init 9 = .ok (.putfield 7, 3) := by decide +kernel
theorem dX10_init_12 : decode cX10_init 12 = .ok (.aload_n 0, 1) := by decide +kernel
theorem dX10_init_13 : decode cX10_init 13 = .ok (.sipush 188, 3) := by decide +kernel
theorem dX10_init_16 : decode cX10_init 16 = .ok (.newarray .int, 2) := by decide +kernel
theorem dX10_init_18 : decode cX10_init 18 = .ok (.putfield 13, 3) := by decide +kernel
theorem dX10_init_21 : decode cX10_init 21 = .ok (.aload_n 0, 1) := by decide +kernel
theorem dX10_init_22 : decode cX10_init 22 = .ok (.bipush 40, 2) := by decide +kernel
theorem dX10_init_24 : decode cX10_init 24 = .ok (.newarray .int, 2) := by decide +kernel
theorem dX10_init_26 : decode cX10_init 26 = .ok (.putfield 16, 3) := by decide +kernel
theorem dX10_init_29 : decode cX10_init 29 = .ok (.aload_n 0, 1) := by decide +kernel
theorem dX10_init_30 : decode cX10_init 30 = .ok (.bipush 40, 2) := by decide +kernel
theorem dX10_init_32 : decode cX10_init 32 = .ok (.newarray .int, 2) := by decide +kernel
theorem dX10_init_34 : decode cX10_init 34 = .ok (.putfield 19, 3) := by decide +kernel
theorem dX10_init_37 : decode cX10_init 37 = .ok (.aload_n 0, 1) := by decide +kernel
theorem dX10_init_38 : decode cX10_init 38 = .ok (.bipush 40, 2) := by decide +kernel
theorem dX10_init_40 : decode cX10_init 40 = .ok (.newarray .int, 2) := by decide +kernel
theorem dX10_init_42 : decode cX10_init 42 = .ok (.putfield 22, 3) := by decide +kernel
theorem dX10_init_45 : decode cX10_init 45 = .ok (.aload_n 0, 1) := by decide +kernel
theorem dX10_init_46 : decode cX10_init 46 = .ok (.bipush 9, 2) := by decide +kernel
theorem dX10_init_48 : decode cX10_init 48 = .ok (.newarray .int, 2) := by decide +kernel
theorem dX10_init_50 : decode cX10_init 50 = .ok (.dup, 1) := by decide +kernel
theorem dX10_init_51 : decode cX10_init 51 = .ok (.iconst 0, 1) := by decide +kernel
theorem dX10_init_52 : decode cX10_init 52 = .ok (.iconst 0, 1) := by decide +kernel
theorem dX10_init_53 : decode cX10_init 53 = .ok (.iastore, 1) := by decide +kernel
theorem dX10_init_54 : decode cX10_init 54 = .ok (.dup, 1) := by decide +kernel
theorem dX10_init_55 : decode cX10_init 55 = .ok (.iconst 1, 1) := by decide +kernel
theorem dX10_init_56 : decode cX10_init 56 = .ok (.iconst 0, 1) := by decide +kernel
theorem dX10_init_57 : decode cX10_init 57 = .ok (.iastore, 1) := by decide +kernel
theorem dX10_init_58 : decode cX10_init 58 = .ok (.dup, 1) := by decide +kernel
theorem dX10_init_59 : decode cX10_init 59 = .ok (.iconst 2, 1) := by decide +kernel
theorem dX10_init_60 : decode cX10_init 60 = .ok (.iconst 0, 1) := by decide +kernel
theorem dX10_init_61 : decode cX10_init 61 = .ok (.iastore, 1) := by decide +kernel
theorem dX10_init_62 : decode cX10_init 62 = .ok (.dup, 1) := by decide +kernel
theorem dX10_init_63 : decode cX10_init 63 = .ok (.iconst 3, 1) := by decide +kernel
theorem dX10_init_64 : decode cX10_init 64 = .ok (.iconst 0, 1) := by decide +kernel
theorem dX10_init_65 : decode cX10_init 65 = .ok (.iastore, 1) := by decide +kernel
theorem dX10_init_66 : decode cX10_init 66 = .ok (.dup, 1) := by decide +kernel
theorem dX10_init_67 : decode cX10_init 67 = .ok (.iconst 4, 1) := by decide +kernel
theorem dX10_init_68 : decode cX10_init 68 = .ok (.iconst 5, 1) := by decide +kernel
theorem dX10_init_69 : decode cX10_init 69 = .ok (.iastore, 1) := by decide +kernel
theorem dX10_init_70 : decode cX10_init 70 = .ok (.dup, 1) := by decide +kernel
theorem dX10_init_71 : decode cX10_init 71 = .ok (.iconst 5, 1) := by decide +kernel
theorem dX10_init_72 : decode cX10_init 72 = .ok (.iconst 0, 1) := by decide +kernel
theorem dX10_init_73 : decode cX10_init 73 = .ok (.iastore, 1) := by decide +kernel
theorem dX10_init_74 : decode cX10_init 74 = .ok (.dup, 1) := by decide +kernel
theorem dX10_init_75 : decode cX10_init 75 = .ok (.bipush 6, 2) := by decide +kernel
theorem dX10_init_77 : decode cX10_init 77 = .ok (.iconst 0, 1) := by decide +kernel
theorem dX10_init_78 : decode cX10_init 78 = .ok (.iastore, 1) := by decide +kernel
theorem dX10_init_79 : decode cX10_init 79 = .ok (.dup, 1) := by decide +kernel
theorem dX10_init_80 : decode cX10_init 80 = .ok (.bipush 7, 2) := by decide +kernel
theorem dX10_init_82 : decode cX10_init 82 = .ok (.iconst 1, 1) := by decide +kernel
theorem dX10_init_83 : decode cX10_init 83 = .ok (.iastore, 1) := by decide +kernel
theorem dX10_init_84 : decode cX10_init 84 = .ok (.dup, 1) := by decide +kernel
theorem dX10_init_85 : decode cX10_init 85 = .ok (.bipush 8, 2) := by decide +kernel
theorem dX10_init_87 : decode cX10_init 87 = .ok (.iconst 0, 1) := by decide +kernel
theorem dX10_init_88 : decode cX10_init 88 = .ok (.iastore, 1) := by decide +kernel
theorem dX10_init_89 : decode cX10_init 89 = .ok (.putfield 25, 3) := by decide +kernel
theorem dX10_init_92 : decode cX10_init 92 = .ok (.aload_n 0, 1) := by decide +kernel
theorem dX10_init_93 : decode cX10_init 93 = .ok (.bipush 9, 2) := by decide +kernel
theorem dX10_init_95 : decode cX10_init 95 = .ok (.newarray .int, 2) := by decide +kernel
theorem dX10_init_97 : decode cX10_init 97 = .ok (.dup, 1) := by decide +kernel
theorem dX10_init_98 : decode cX10_init 98 = .ok (.iconst 0, 1) := by decide +kernel
theorem dX10_init_99 : decode cX10_init 99 = .ok (.bipush 99, 2) := by decide +kernel
theorem dX10_init_101 : decode cX10_init 101 = .ok (.iastore, 1) := by decide +kernel
theorem dX10_init_102 : decode cX10_init 102 = .ok (.dup, 1) := by decide +kernel
theorem dX10_init_103 : decode cX10_init 103 = .ok (.iconst 1, 1) := by decide +kernel
theorem dX10_init_104 : decode cX10_init 104 = .ok (.bipush 9, 2) := by decide +kernel
theorem dX10_init_106 : decode cX10_init 106 = .ok (.iastore, 1) := by decide +kernel
theorem dX10_init_107 : decode cX10_init 107 = .ok (.dup, 1) := by decide +kernel
theorem dX10_init_108 : decode cX10_init 108 = .ok (.iconst 2, 1) := by decide +kernel
theorem dX10_init_109 : decode cX10_init 109 = .ok (.bipush 9, 2) := by decide +kernel
theorem dX10_init_111 : decode cX10_init 111 = .ok (.iastore, 1) := by decide +kernel
theorem dX10_init_112 : decode cX10_init 112 = .ok (.dup, 1) := by decide +kernel
theorem dX10_init_113 : decode cX10_init 113 = .ok (.iconst 3, 1) := by decide +kernel
theorem dX10_init_114 : decode cX10_init 114 = .ok (.iconst 1, 1) := by decide +kernel
theorem dX10_init_115 : decode cX10_init 115 = .ok (.iastore, 1) := by decide +kernel
theorem dX10_init_116 : decode cX10_init 116 = .ok (.dup, 1) := by decide +kernel
theorem dX10_init_117 : decode cX10_init 117 = .ok (.iconst 4, 1) := by decide +kernel
theorem dX10_init_118 : decode cX10_init 118 = .ok (.bipush 9, 2) := by decide +kernel
theorem dX10_init_120 : decode cX10_init 120 = .ok (.iastore, 1) := by decide +kernel
theorem dX10_init_121 : decode cX10_init 121 = .ok (.dup, 1) := by decide +kernel
theorem dX10_init_122 : decode cX10_init 122 = .ok (.iconst 5, 1) := by decide +kernel
theorem dX10_init_123 : decode cX10_init 123 = .ok (.iconst 1, 1) := by decide +kernel
theorem dX10_init_124 : decode cX10_init 124 = .ok (.iastore, 1) := by decide +kernel
theorem dX10_init_125 : decode cX10_init 125 = .ok (.dup, 1) := by decide +kernel
theorem dX10_init_126 : decode cX10_init 126 = .ok (.bipush 6, 2) := by decide +kernel
theorem dX10_init_128 : decode cX10_init 128 = .ok (.sipush 199, 3) := by decide +kernel
theorem dX10_init_131 : decode cX10_init 131 = .ok (.iastore, 1) := by decide +kernel
theorem dX10_init_132 : decode cX10_init 132 = .ok (.dup, 1) := by decide +kernel
theorem dX10_init_133 : decode cX10_init 133 = .ok (.bipush 7, 2) := by decide +kernel
theorem dX10_init_135 : decode cX10_init 135 = .ok (.bipush 30, 2) := by decide +kernel
theorem dX10_init_137 : decode cX10_init 137 = .ok (.iastore, 1) := by decide +kernel
theorem dX10_init_138 : decode cX10_init 138 = .ok (.dup, 1) := by decide +kernel
theorem dX10_init_139 : decode cX10_init 139 = .ok (.bipush 8, 2) := by decide +kernel
theorem dX10_init_141 : decode cX10_init 141 = .ok (.sipush 199, 3) := by decide +kernel
theorem dX10_init_144 : decode cX10_init 144 = .ok (.iastore, 1) := by decide +kernel
theorem dX10_init_145 : decode cX10_init 145 = .ok (.putfield 28, 3) := by decide +kernel
theorem dX10_init_148 : decode cX10_init 148 = .ok (.aload_n 0, 1) := by decide +kernel
theorem dX10_init_149 : decode cX10_init 149 = .ok (.bipush 120, 2) := by decide +kernel
theorem dX10_init_151 : decode cX10_init 151 = .ok (.newarray .int, 2) := by decide +kernel
theorem dX10_init_153 : decode cX10_init 153 = .ok (.putfield 31, 3) := by decide +kernel
theorem dX10_init_156 : decode cX10_init 156 = .ok (.aload_n 0, 1) := by decide +kernel
theorem dX10_init_157 : decode cX10_init 157 = .ok (.bipush 120, 2) := by decide +kernel
theorem dX10_init_159 : decode cX10_init 159 = .ok (.newarray .int, 2) := by decide +kernel
theorem dX10_init_161 : decode cX10_init 161 = .ok (.putfield 34, 3) := by decide +kernel
theorem dX10_init_164 : decode cX10_init 164 = .ok (.aload_n 0, 1) := by decide +kernel
theorem dX10_init_165 : decode cX10_init 165 = .ok (.bipush 120, 2) := by decide +kernel
theorem dX10_init_167 : decode cX10_init 167 = .ok (.newarray .int, 2) := by decide +kernel
theorem dX10_init_169 : decode cX10_init 169 = .ok (.putfield 37, 3) := by decide +kernel
theorem dX10_init_172 : decode cX10_init 172 = .ok (.aload_n 0, 1) := by decide +kernel
theorem dX10_init_173 : decode cX10_init 173 = .ok (.bipush 6, 2) := by decide +kernel
theorem dX10_init_175 : decode cX10_init 175 = .ok (.newarray .int, 2) := by decide +kernel
theorem dX10_init_177 : decode cX10_init 177 = .ok (.putfield 40, 3) := by decide +kernel
theorem dX10_init_180 : decode cX10_init 180 = .ok (.aload_n 0, 1) := by decide +kernel
theorem dX10_init_181 : decode cX10_init 181 = .ok (.bipush 6, 2) := by decide +kernel
theorem dX10_init_183 : decode cX10_init 183 = .ok (.newarray .char, 2) := by decide +kernel
theorem dX10_init_185 : decode cX10_init 185 = .ok (.dup, 1) := by decide +kernel
theorem dX10_init_186 : decode cX10_init 186 = .ok (.iconst 0, 1) := by decide +kernel
theorem dX10_init_187 : decode cX10_init 187 = .ok (.bipush 114, 2) := by decide +kernel
theorem dX10_init_189 : decode cX10_init 189 = .ok (.castore, 1) := by decide +kernel
theorem dX10_init_190 : decode cX10_init 190 = .ok (.dup, 1) := by decide +kernel
theorem dX10_init_191 : decode cX10_init 191 = .ok (.iconst 1, 1) := by decide +kernel
theorem dX10_init_192 : decode cX10_init 192 = .ok (.bipush 108, 2) := by decide +kernel
theorem dX10_init_194 : decode cX10_init 194 = .ok (.castore, 1) := by decide +kernel
theorem dX10_init_195 : decode cX10_init 195 = .ok (.dup, 1) := by decide +kernel
theorem dX10_init_196 : decode cX10_init 196 = .ok (.iconst 2, 1) := by decide +kernel
theorem dX10_init_197 : decode cX10_init 197 = .ok (.bipush 104, 2) := by decide +kernel
theorem dX10_init_199 : decode cX10_init 199 = .ok (.castore, 1) := by decide +kernel
theorem dX10_init_200 : decode cX10_init 200 = .ok (.dup, 1) := by decide +kernel
theorem dX10_init_201 : decode cX10_init 201 = .ok (.iconst 3, 1) := by decide +kernel
theorem dX10_init_202 : decode cX10_init 202 = .ok (.bipush 109, 2) := by decide +kernel
theorem dX10_init_204 : decode cX10_init 204 = .ok (.castore, 1) := by decide +kernel
theorem dX10_init_205 : decode cX10_init 205 = .ok (.dup, 1) := by decide +kernel
theorem dX10_init_206 : decode cX10_init 206 = .ok (.iconst 4, 1) := by decide +kernel
theorem dX10_init_207 : decode cX10_init 207 = .ok (.bipush 110, 2) := by decide +kernel
theorem dX10_init_209 : decode cX10_init 209 = .ok (.castore, 1) := by decide +kernel
theorem dX10_init_210 : decode cX10_init 210 = .ok (.dup, 1) := by decide +kernel
theorem dX10_init_211 : decode cX10_init 211 = .ok (.iconst 5, 1) := by decide +kernel
theorem dX10_init_212 : decode cX10_init 212 = .ok (.bipush 103, 2) := by decide +kernel
theorem dX10_init_214 : decode cX10_init 214 = .ok (.castore, 1) := by decide +kernel
theorem dX10_init_215 : decode cX10_init 215 = .ok (.putfield 43, 3) := by decide +kernel
theorem dX10_init_218 : decode cX10_init 218 = .ok (.aload_n 0, 1) := by decide +kernel
theorem dX10_init_219 : decode cX10_init 219 = .ok (.iconst (-1), 1) := by decide +kernel
theorem dX10_init_220 : decode cX10_init 220 = .ok (.putfield 47, 3) := by decide +kernel
theorem dX10_init_223 : decode cX10_init 223 = .ok (.aload_n 0, 1) := by decide +kernel
theorem dX10_init_224 : decode cX10_init 224 = .ok (.bipush 9, 2) := by decide +kernel
theorem dX10_init_226 : decode cX10_init 226 = .ok (.newarray .int, 2) := by decide +kernel
theorem dX10_init_228 : decode cX10_init 228 = .ok (.putfield 51, 3) := by decide +kernel
theorem dX10_init_231 : decode cX10_init 231 = .ok (.aload_n 0, 1) := by decide +kernel
theorem dX10_init_232 : decode cX10_init 232 = .ok (.bipush 9, 2) := by decide +kernel
theorem dX10_init_234 : decode cX10_init 234 = .ok (.newarray .int, 2) := by decide +kernel
theorem dX10_init_236 : decode cX10_init 236 = .ok (.putfield 54, 3) := by decide +kernel
theorem dX10_init_239 : decode cX10_init 239 = .ok (.aload_n 0, 1) := by decide +kernel
theorem dX10_init_240 : decode cX10_init 240 = .ok (.bipush 9, 2) := by decide +kernel
theorem dX10_init_242 : decode cX10_init 242 = .ok (.newarray .int, 2) := by decide +kernel
theorem dX10_init_244 : decode cX10_init 244 = .ok (.putfield 57, 3) := by decide +kernel
theorem dX10_init_247 : decode cX10_init 247 = .ok (.aload_n 0, 1) := by decide +kernel
theorem dX10_init_248 : decode cX10_init 248 = .ok (.bipush 6, 2) := by decide +kernel
theorem dX10_init_250 : decode cX10_init 250 = .ok (.newarray .int, 2) := by decide +kernel
theorem dX10_init_252 : decode cX10_init 252 = .ok (.dup, 1) := by decide +kernel
theorem dX10_init_253 : decode cX10_init 253 = .ok (.iconst 0, 1) := by decide +kernel
theorem dX10_init_254 : decode cX10_init 254 = .ok (.iconst (-1), 1) := by decide +kernel
theorem dX10_init_255 : decode cX10_init 255 = .ok (.iastore, 1) := by decide +kernel
theorem dX10_init_256 : decode cX10_init 256 = .ok (.dup, 1) := by decide +kernel
theorem dX10_init_257 : decode cX10_init 257 = .ok (.iconst 1, 1) := by decide +kernel
theorem dX10_init_258 : decode cX10_init 258 = .ok (.iconst (-1), 1) := by decide +kernel
theorem dX10_init_259 : decode cX10_init 259 = .ok (.iastore, 1) := by decide +kernel
theorem dX10_init_260 : decode cX10_init 260 = .ok (.dup, 1) := by decide +kernel
theorem dX10_init_261 : decode cX10_init 261 = .ok (.iconst 2, 1) := by decide +kernel
theorem dX10_init_262 : decode cX10_init 262 = .ok (.iconst (-1), 1) := by decide +kernel
theorem dX10_init_263 : decode cX10_init 263 = .ok (.iastore, 1) := by decide +kernel
theorem dX10_init_264 : decode cX10_init 264 = .ok (.dup, 1) := by decide +kernel
theorem dX10_init_265 : decode cX10_init 265 = .ok (.iconst 3, 1) := by decide +kernel
theorem dX10_init_266 : decode cX10_init 266 = .ok (.iconst (-1), 1) := by decide +kernel
theorem dX10_init_267 : decode cX10_init 267 = .ok (.iastore, 1) := by decide +kernel
theorem dX10_init_268 : decode cX10_init 268 = .ok (.dup, 1) := by decide +kernel
theorem dX10_init_269 : decode cX10_init 269 = .ok (.iconst 4, 1) := by decide +kernel
theorem dX10_init_270 : decode cX10_init 270 = .ok (.iconst (-1), 1) := by decide +kernel
theorem dX10_init_271 : decode cX10_init 271 = .ok (.iastore, 1) := by decide +kernel
theorem dX10_init_272 : decode cX10_init 272 = .ok (.dup, 1) := by decide +kernel
theorem dX10_init_273 : decode cX10_init 273 = .ok (.iconst 5, 1) := by decide +kernel
theorem dX10_init_274 : decode cX10_init 274 = .ok (.iconst (-1), 1) := by decide +kernel
theorem dX10_init_275 : decode cX10_init 275 = .ok (.iastore, 1) := by decide +kernel
theorem dX10_init_276 : decode cX10_init 276 = .ok (.putfield 60, 3) := by decide +kernel
theorem dX10_init_279 : decode cX10_init 279 = .ok (.aload_n 0, 1) := by decide +kernel
theorem dX10_init_280 : decode cX10_init 280 = .ok (.bipush 6, 2) := by decide +kernel
theorem dX10_init_282 : decode cX10_init 282 = .ok (.newarray .int, 2) := by decide +kernel
theorem dX10_init_284 : decode cX10_init 284 = .ok (.putfield 63, 3) := by decide +kernel
theorem dX10_init_287 : decode cX10_init 287 = .ok (.aload_n 0, 1) := by decide +kernel
theorem dX10_init_288 : decode cX10_init 288 = .ok (.sipush 360, 3) := by decide +kernel
theorem dX10_init_291 : decode cX10_init 291 = .ok (.newarray .long, 2) := by decide +kernel
theorem dX10_init_293 : decode cX10_init 293 = .ok (.putfield 66, 3) := by decide +kernel
theorem dX10_init_296 : decode cX10_init 296 = .ok (.aload_n 0, 1) := by decide +kernel
theorem dX10_init_297 : decode cX10_init 297 = .ok (.bipush 60, 2) := by decide +kernel
theorem dX10_init_299 : decode cX10_init 299 = .ok (.newarray .long, 2) := by decide +kernel
theorem dX10_init_301 : decode cX10_init 301 = .ok (.putfield 70, 3) := by decide +kernel
theorem dX10_init_304 : decode cX10_init 304 = .ok (.aload_n 0, 1) := by decide +kernel
theorem dX10_init_305 : decode cX10_init 305 = .ok (.iconst 5, 1) := by decide +kernel
theorem dX10_init_306 : decode cX10_init 306 = .ok (.newarray .int, 2) := by decide +kernel
theorem dX10_init_308 : decode cX10_init 308 = .ok (.putfield 73, 3) := by decide +kernel
theorem dX10_init_311 : decode cX10_init 311 = .ok (.aload_n 0, 1) := by decide +kernel
theorem dX10_init_312 : decode cX10_init 312 = .ok (.bipush 94, 2) := by decide +kernel
theorem dX10_init_314 : decode cX10_init 314 = .ok (.newarray .int, 2) := by decide +kernel
theorem dX10_init_316 : decode cX10_init 316 = .ok (.putfield 76, 3) := by decide +kernel
theorem dX10_init_319 : decode cX10_init 319 = .ok (.aload_n 0, 1) := by decide +kernel
theorem dX10_init_320 : decode cX10_init 320 = .ok (.iconst 5, 1) := by decide +kernel
theorem dX10_init_321 : decode cX10_init 321 = .ok (.newarray .int, 2) := by decide +kernel
theorem dX10_init_323 : decode cX10_init 323 = .ok (.putfield 79, 3) := by decide +kernel
theorem dX10_init_326 : decode cX10_init 326 = .ok (.aload_n 0, 1) := by decide +kernel
theorem dX10_init_327 : decode cX10_init 327 = .ok (.bipush 8, 2) := by decide +kernel
theorem dX10_init_329 : decode cX10_init 329 = .ok (.newarray .int, 2) := by decide +kernel
theorem dX10_init_331 : decode cX10_init 331 = .ok (.dup, 1) := by decide +kernel
theorem dX10_init_332 : decode cX10_init 332 = .ok (.iconst 0, 1) := by decide +kernel
theorem dX10_init_333 : decode cX10_init 333 = .ok (.iconst (-1), 1) := by decide +kernel
theorem dX10_init_334 : decode cX10_init 334 = .ok (.iastore, 1) := by decide +kernel
theorem dX10_init_335 : decode cX10_init 335 = .ok (.dup, 1) := by decide +kernel
theorem dX10_init_336 : decode cX10_init 336 = .ok (.iconst 1, 1) := by decide +kernel
theorem dX10_init_337 : decode cX10_init 337 = .ok (.iconst 0, 1) := by decide +kernel
theorem dX10_init_338 : decode cX10_init 338 = .ok (.iastore, 1) := by decide +kernel
theorem dX10_init_339 : decode cX10_init 339 = .ok (.dup, 1) := by decide +kernel
theorem dX10_init_340 : decode cX10_init 340 = .ok (.iconst 2, 1) := by decide +kernel
theorem dX10_init_341 : decode cX10_init 341 = .ok (.iconst 0, 1) := by decide +kernel
theorem dX10_init_342 : decode cX10_init 342 = .ok (.iastore, 1) := by decide +kernel
theorem dX10_init_343 : decode cX10_init 343 = .ok (.dup, 1) := by decide +kernel
theorem dX10_init_344 : decode cX10_init 344 = .ok (.iconst 3, 1) := by decide +kernel
theorem dX10_init_345 : decode cX10_init 345 = .ok (.iconst 2, 1) := by decide +kernel
theorem dX10_init_346 : decode cX10_init 346 = .ok (.iastore, 1) := by decide +kernel
theorem dX10_init_347 : decode cX10_init 347 = .ok (.dup, 1) := by decide +kernel
theorem dX10_init_348 : decode cX10_init 348 = .ok (.iconst 4, 1) := by decide +kernel
theorem dX10_init_349 : decode cX10_init 349 = .ok (.iconst 1, 1) := by decide +kernel
theorem dX10_init_350 : decode cX10_init 350 = .ok (.iastore, 1) := by decide +kernel
theorem dX10_init_351 : decode cX10_init 351 = .ok (.dup, 1) := by decide +kernel
theorem dX10_init_352 : decode cX10_init 352 = .ok (.iconst 5, 1) := by decide +kernel
theorem dX10_init_353 : decode cX10_init 353 = .ok (.iconst 3, 1) := by decide +kernel
theorem dX10_init_354 : decode cX10_init 354 = .ok (.iastore, 1) := by decide +kernel
theorem dX10_init_355 : decode cX10_init 355 = .ok (.dup, 1) := by decide +kernel
theorem dX10_init_356 : decode cX10_init 356 = .ok (.bipush 6, 2) := by decide +kernel
theorem dX10_init_358 : decode cX10_init 358 = .ok (.iconst 0, 1) := by decide +kernel
theorem dX10_init_359 : decode cX10_init 359 = .ok (.iastore, 1) := by decide +kernel
theorem dX10_init_360 : decode cX10_init 360 = .ok (.dup, 1) := by decide +kernel
theorem dX10_init_361 : decode cX10_init 361 = .ok (.bipush 7, 2) := by decide +kernel
theorem dX10_init_363 : decode cX10_init 363 = .ok (.iconst 4, 1) := by decide +kernel
theorem dX10_init_364 : decode cX10_init 364 = .ok (.iastore, 1) := by decide +kernel
theorem dX10_init_365 : decode cX10_init 365 = .ok (.putfield 82, 3) := by decide +kernel
theorem dX10_init_368 : decode cX10_init 368 = .ok (.aload_n 0, 1) := by decide +kernel
theorem dX10_init_369 : decode cX10_init 369 = .ok (.bipush 32, 2) := by decide +kernel
theorem dX10_init_371 : decode cX10_init 371 = .ok (.newarray .int, 2) := by decide +kernel
theorem dX10_init_373 : decode cX10_init 373 = .ok (.dup, 1) := by decide +kernel
theorem dX10_init_374 : decode cX10_init 374 = .ok (.iconst 0, 1) := by decide +kernel
theorem dX10_init_375 : decode cX10_init 375 = .ok (.iconst 1, 1) := by decide +kernel
theorem dX10_init_376 : decode cX10_init 376 = .ok (.iastore, 1) := by decide +kernel
theorem dX10_init_377 : decode cX10_init 377 = .ok (.dup, 1) := by decide +kernel
theorem dX10_init_378 : decode cX10_init 378 = .ok (.iconst 1, 1) := by decide +kernel
theorem dX10_init_379 : decode cX10_init 379 = .ok (.bipush 10, 2) := by decide +kernel
theorem dX10_init_381 : decode cX10_init 381 = .ok (.iastore, 1) := by decide +kernel
theorem dX10_init_382 : decode cX10_init 382 = .ok (.dup, 1) := by decide +kernel
theorem dX10_init_383 : decode cX10_init 383 = .ok (.iconst 2, 1) := by decide +kernel
theorem dX10_init_384 : decode cX10_init 384 = .ok (.bipush 11, 2) := by decide +kernel
theorem dX10_init_386 : decode cX10_init 386 = .ok (.iastore, 1) := by decide +kernel
theorem dX10_init_387 : decode cX10_init 387 = .ok (.dup, 1) := by decide +kernel
theorem dX10_init_388 : decode cX10_init 388 = .ok (.iconst 3, 1) := by decide +kernel
theorem dX10_init_389 : decode cX10_init 389 = .ok (.iconst 2, 1) := by decide +kernel
theorem dX10_init_390 : decode cX10_init 390 = .ok (.iastore, 1) := by decide +kernel
theorem dX10_init_391 : decode cX10_init 391 = .ok (.dup, 1) := by decide +kernel
theorem dX10_init_392 : decode cX10_init 392 = .ok (.iconst 4, 1) := by decide +kernel
theorem dX10_init_393 : decode cX10_init 393 = .ok (.bipush 20, 2) := by decide +kernel
theorem dX10_init_395 : decode cX10_init 395 = .ok (.iastore, 1) := by decide +kernel
theorem dX10_init_396 : decode cX10_init 396 = .ok (.dup, 1) := by decide +kernel
theorem dX10_init_397 : decode cX10_init 397 = .ok (.iconst 5, 1) := by decide +kernel
theorem dX10_init_398 : decode cX10_init 398 = .ok (.iconst 0, 1) := by decide +kernel
theorem dX10_init_399 : decode cX10_init 399 = .ok (.iastore, 1) := by decide +kernel
theorem dX10_init_400 : decode cX10_init 400 = .ok (.dup, 1) := by decide +kernel
theorem dX10_init_401 : decode cX10_init 401 = .ok (.bipush 6, 2) := by decide +kernel
theorem dX10_init_403 : decode cX10_init 403 = .ok (.iconst 0, 1) := by decide +kernel
theorem dX10_init_404 : decode cX10_init 404 = .ok (.iastore, 1) := by decide +kernel
theorem dX10_init_405 : decode cX10_init 405 = .ok (.dup, 1) := by decide +kernel
theorem dX10_init_406 : decode cX10_init 406 = .ok (.bipush 7, 2) := by decide +kernel
theorem dX10_init_408 : decode cX10_init 408 = .ok (.iconst 0, 1) := by decide +kernel
theorem dX10_init_409 : decode cX10_init 409 = .ok (.iastore, 1) := by decide +kernel
theorem dX10_init_410 : decode cX10_init 410 = .ok (.dup, 1) := by decide +kernel
theorem dX10_init_411 : decode cX10_init 411 = .ok (.bipush 8, 2) := by decide +kernel
theorem dX10_init_413 : decode cX10_init 413 = .ok (.iconst 0, 1) := by decide +kernel
theorem dX10_init_414 : decode cX10_init 414 = .ok (.iastore, 1) := by decide +kernel
theorem dX10_init_415 : decode cX10_init 415 = .ok (.dup, 1) := by decide +kernel
theorem dX10_init_416 : decode cX10_init 416 = .ok (.bipush 9, 2) := by decide +kernel
theorem dX10_init_418 : decode cX10_init 418 = .ok (.bipush 30, 2) := by decide +kernel
theorem dX10_init_420 : decode cX10_init 420 = .ok (.iastore, 1) := by decide +kernel
theorem dX10_init_421 : decode cX10_init 421 = .ok (.dup, 1) := by decide +kernel
theorem dX10_init_422 : decode cX10_init 422 = .ok (.bipush 10, 2) := by decide +kernel
theorem dX10_init_424 : decode cX10_init 424 = .ok (.iconst 0, 1) := by decide +kernel
theorem dX10_init_425 : decode cX10_init 425 = .ok (.iastore, 1) := by decide +kernel
theorem dX10_init_426 : decode cX10_init 426 = .ok (.dup, 1) := by decide +kernel
theorem dX10_init_427 : decode cX10_init 427 = .ok (.bipush 11, 2) := by decide +kernel
theorem dX10_init_429 : decode cX10_init 429 = .ok (.iconst 0, 1) := by decide +kernel
theorem dX10_init_430 : decode cX10_init 430 = .ok (.iastore, 1) := by decide +kernel
theorem dX10_init_431 : decode cX10_init 431 = .ok (.dup, 1) := by decide +kernel
theorem dX10_init_432 : decode cX10_init 432 = .ok (.bipush 12, 2) := by decide +kernel
theorem dX10_init_434 : decode cX10_init 434 = .ok (.iconst 0, 1) := by decide +kernel
theorem dX10_init_435 : decode cX10_init 435 = .ok (.iastore, 1) := by decide +kernel
theorem dX10_init_436 : decode cX10_init 436 = .ok (.dup, 1) := by decide +kernel
theorem dX10_init_437 : decode cX10_init 437 = .ok (.bipush 13, 2) := by decide +kernel
theorem dX10_init_439 : decode cX10_init 439 = .ok (.bipush 41, 2) := by decide +kernel
theorem dX10_init_441 : decode cX10_init 441 = .ok (.iastore, 1) := by decide +kernel
theorem dX10_init_442 : decode cX10_init 442 = .ok (.dup, 1) := by decide +kernel
theorem dX10_init_443 : decode cX10_init 443 = .ok (.bipush 14, 2) := by decide +kernel
theorem dX10_init_445 : decode cX10_init 445 = .ok (.bipush 40, 2) := by decide +kernel
theorem dX10_init_447 : decode cX10_init 447 = .ok (.iastore, 1) := by decide +kernel
theorem dX10_init_448 : decode cX10_init 448 = .ok (.dup, 1) := by decide +kernel
theorem dX10_init_449 : decode cX10_init 449 = .ok (.bipush 15, 2) := by decide +kernel
theorem dX10_init_451 : decode cX10_init 451 = .ok (.iconst 0, 1) := by decide +kernel
theorem dX10_init_452 : decode cX10_init 452 = .ok (.iastore, 1) := by decide +kernel
theorem dX10_init_453 : decode cX10_init 453 = .ok (.dup, 1) := by decide +kernel
theorem dX10_init_454 : decode cX10_init 454 = .ok (.bipush 16, 2) := by decide +kernel
theorem dX10_init_456 : decode cX10_init 456 = .ok (.iconst 0, 1) := by decide +kernel
theorem dX10_init_457 : decode cX10_init 457 = .ok (.iastore, 1) := by decide +kernel
theorem dX10_init_458 : decode cX10_init 458 = .ok (.dup, 1) := by decide +kernel
theorem dX10_init_459 : decode cX10_init 459 = .ok (.bipush 17, 2) := by decide +kernel
theorem dX10_init_461 : decode cX10_init 461 = .ok (.iconst 0, 1) := by decide +kernel
theorem dX10_init_462 : decode cX10_init 462 = .ok (.iastore, 1) := by decide +kernel
theorem dX10_init_463 : decode cX10_init 463 = .ok (.dup, 1) := by decide +kernel
theorem dX10_init_464 : decode cX10_init 464 = .ok (.bipush 18, 2) := by decide +kernel
theorem dX10_init_466 : decode cX10_init 466 = .ok (.bipush 50, 2) := by decide +kernel
theorem dX10_init_468 : decode cX10_init 468 = .ok (.iastore, 1) := by decide +kernel
theorem dX10_init_469 : decode cX10_init 469 = .ok (.dup, 1) := by decide +kernel
theorem dX10_init_470 : decode cX10_init 470 = .ok (.bipush 19, 2) := by decide +kernel
theorem dX10_init_472 : decode cX10_init 472 = .ok (.iconst 0, 1) := by decide +kernel
theorem dX10_init_473 : decode cX10_init 473 = .ok (.iastore, 1) := by decide +kernel
theorem dX10_init_474 : decode cX10_init 474 = .ok (.dup, 1) := by decide +kernel
theorem dX10_init_475 : decode cX10_init 475 = .ok (.bipush 20, 2) := by decide +kernel
theorem dX10_init_477 : decode cX10_init 477 = .ok (.iconst 0, 1) := by decide +kernel
theorem dX10_init_478 : decode cX10_init 478 = .ok (.iastore, 1) := by decide +kernel
theorem dX10_init_479 : decode cX10_init 479 = .ok (.dup, 1) := by decide +kernel
theorem dX10_init_480 : decode cX10_init 480 = .ok (.bipush 21, 2) := by decide +kernel
theorem dX10_init_482 : decode cX10_init 482 = .ok (.iconst 0, 1) := by decide +kernel
theorem dX10_init_483 : decode cX10_init 483 = .ok (.iastore, 1) := by decide +kernel
theorem dX10_init_484 : decode cX10_init 484 = .ok (.dup, 1) := by decide +kernel
theorem dX10_init_485 : decode cX10_init 485 = .ok (.bipush 22, 2) := by decide +kernel
theorem dX10_init_487 : decode cX10_init 487 = .ok (.iconst 0, 1) := by decide +kernel
theorem dX10_init_488 : decode cX10_init 488 = .ok (.iastore, 1) := by decide +kernel
theorem dX10_init_489 : decode cX10_init 489 = .ok (.dup, 1) := by decide +kernel
theorem dX10_init_490 : decode cX10_init 490 = .ok (.bipush 23, 2) := by decide +kernel
theorem dX10_init_492 : decode cX10_init 492 = .ok (.bipush 60, 2) := by decide +kernel
theorem dX10_init_494 : decode cX10_init 494 = .ok (.iastore, 1) := by decide +kernel
theorem dX10_init_495 : decode cX10_init 495 = .ok (.dup, 1) := by decide +kernel
theorem dX10_init_496 : decode cX10_init 496 = .ok (.bipush 24, 2) := by decide +kernel
theorem dX10_init_498 : decode cX10_init 498 = .ok (.bipush 70, 2) := by decide +kernel
theorem dX10_init_500 : decode cX10_init 500 = .ok (.iastore, 1) := by decide +kernel
theorem dX10_init_501 : decode cX10_init 501 = .ok (.dup, 1) := by decide +kernel
theorem dX10_init_502 : decode cX10_init 502 = .ok (.bipush 25, 2) := by decide +kernel
theorem dX10_init_504 : decode cX10_init 504 = .ok (.iconst 0, 1) := by decide +kernel
theorem dX10_init_505 : decode cX10_init 505 = .ok (.iastore, 1) := by decide +kernel
theorem dX10_init_506 : decode cX10_init 506 = .ok (.dup, 1) := by decide +kernel
theorem dX10_init_507 : decode cX10_init 507 = .ok (.bipush 26, 2) := by decide +kernel
theorem dX10_init_509 : decode cX10_init 509 = .ok (.iconst 0, 1) := by decide +kernel
theorem dX10_init_510 : decode cX10_init 510 = .ok (.iastore, 1) := by decide +kernel
theorem dX10_init_511 : decode cX10_init 511 = .ok (.dup, 1) := by decide +kernel
theorem dX10_init_512 : decode cX10_init 512 = .ok (.bipush 27, 2) := by decide +kernel
theorem dX10_init_514 : decode cX10_init 514 = .ok (.iconst 0, 1) := by decide +kernel
theorem dX10_init_515 : decode cX10_init 515 = .ok (.iastore, 1) := by decide +kernel
theorem dX10_init_516 : decode cX10_init 516 = .ok (.dup, 1) := by decide +kernel
theorem dX10_init_517 : decode cX10_init 517 = .ok (.bipush 28, 2) := by decide +kernel
theorem dX10_init_519 : decode cX10_init 519 = .ok (.iconst 0, 1) := by decide +kernel
theorem dX10_init_520 : decode cX10_init 520 = .ok (.iastore, 1) := by decide +kernel
theorem dX10_init_521 : decode cX10_init 521 = .ok (.dup, 1) := by decide +kernel
theorem dX10_init_522 : decode cX10_init 522 = .ok (.bipush 29, 2) := by decide +kernel
theorem dX10_init_524 : decode cX10_init 524 = .ok (.bipush 80, 2) := by decide +kernel
theorem dX10_init_526 : decode cX10_init 526 = .ok (.iastore, 1) := by decide +kernel
theorem dX10_init_527 : decode cX10_init 527 = .ok (.dup, 1) := by decide +kernel
theorem dX10_init_528 : decode cX10_init 528 = .ok (.bipush 30, 2) := by decide +kernel
theorem dX10_init_530 : decode cX10_init 530 = .ok (.iconst 0, 1) := by decide +kernel
theorem dX10_init_531 : decode cX10_init 531 = .ok (.iastore, 1) := by decide +kernel
theorem dX10_init_532 : decode cX10_init 532 = .ok (.dup, 1) := by decide +kernel
theorem dX10_init_533 : decode cX10_init 533 = .ok (.bipush 31, 2) := by decide +kernel
theorem dX10_init_535 : decode cX10_init 535 = .ok (.bipush 81, 2) := by decide +kernel
theorem dX10_init_537 : decode cX10_init 537 = .ok (.iastore, 1) := by decide +kernel
theorem dX10_init_538 : decode cX10_init 538 = .ok (.putfield 85, 3) := by decide +kernel
theorem dX10_init_541 : decode cX10_init 541 = .ok (.aload_n 0, 1) := by decide +kernel
theorem dX10_init_542 : decode cX10_init 542 = .ok (.bipush 50, 2) := by decide +kernel
theorem dX10_init_544 : decode cX10_init 544 = .ok (.newarray .int, 2) := by decide +kernel
theorem dX10_init_546 : decode cX10_init 546 = .ok (.putfield 88, 3) := by decide +kernel
theorem dX10_init_549 : decode cX10_init 549 = .ok (.aload_n 0, 1) := by decide +kernel
theorem dX10_init_550 : decode cX10_init 550 = .ok (.bipush 24, 2) := by decide +kernel
theorem dX10_init_552 : decode cX10_init 552 = .ok (.newarray .int, 2) := by decide +kernel
theorem dX10_init_554 : decode cX10_init 554 = .ok (.putfield 91, 3) := by decide +kernel
theorem dX10_init_557 : decode cX10_init 557 = .ok (.return_, 1) := by decide +kernel
theorem dX10_isIn_0 : decode cX10_isIn 0 = .ok (.iload_n 0, 1) := by decide +kernel
theorem dX10_isIn_1 : decode cX10_isIn 1 = .ok (.iload_n 1, 1) := by decide +kernel
theorem dX10_isIn_2 : decode cX10_isIn 2 = .ok (.if_icmp .lt 12, 3) := by decide +kernel
theorem dX10_isIn_5 : decode cX10_isIn 5 = .ok (.iload_n 0, 1) := by decide +kernel
theorem dX10_isIn_6 : decode cX10_isIn 6 = .ok (.iload_n 2, 1) := by decide +kernel
theorem dX10_isIn_7 : decode cX10_isIn 7 = .ok (.if_icmp .gt 7, 3) := by decide +kernel
theorem dX10_isIn_10 : decode cX10_isIn 10 = .ok (.iconst 1, 1) := by decide +kernel
theorem dX10_isIn_11 : decode cX10_isIn 11 = .ok (.goto 4, 3) := by decide +kernel
theorem dX10_isIn_14 : decode cX10_isIn 14 = .ok (.iconst 0, 1) := by decide +kernel
theorem dX10_isIn_15 : decode cX10_isIn 15 = .ok (.ireturn, 1) := by decide +kernel
theorem dX10_bound_0 : decode cX10_bound 0 = .ok (.iload_n 1, 1) := by decide +kernel
theorem dX10_bound_1 : decode cX10_bound 1 = .ok (.iload_n 2, 1) := by decide +kernel
theorem dX10_bound_2 : decode cX10_bound 2 = .ok (.iload_n 0, 1) := by decide +kernel
theorem dX10_bound_3 : decode cX10_bound 3 = .ok (.invokestatic 94, 3) := by decide +kernel
theorem dX10_bound_6 : decode cX10_bound 6 = .ok (.invokestatic 100, 3) := by decide +kernel
theorem dX10_bound_9 : decode cX10_bound 9 = .ok (.ireturn, 1) := by decide +kernel
theorem dX10_keepAll_0 : decode cX10_keepAll 0 = .ok (.iconst 0, 1) := by decide +kernel
theorem dX10_keepAll_1 : decode cX10_keepAll 1 = .ok (.istore_n 2, 1) := by decide +kernel
theorem dX10_keepAll_2 : decode cX10_keepAll 2 = .ok (.iload_n 2, 1) := by decide +kernel
theorem dX10_keepAll_3 : decode cX10_keepAll 3 = .ok (.bipush 94, 2) := by decide +kernel
theorem dX10_keepAll_5 : decode cX10_keepAll 5 = .ok (.if_icmp .ge 26, 3) := by decide +kernel
theorem dX10_keepAll_8 : decode cX10_keepAll 8 = .ok (.aload_n 0, 1) := by decide +kernel
theorem dX10_keepAll_9 : decode cX10_keepAll 9 = .ok (.getfield 13, 3) := by decide +kernel
theorem dX10_keepAll_12 : decode cX10_keepAll 12 = .ok (.bipush 94, 2) := by decide +kernel
theorem dX10_keepAll_14 : decode cX10_keepAll 14 = .ok (.iload_n 1, 1) := by decide +kernel
theorem dX10_keepAll_15 : decode cX10_keepAll 15 = .ok (.imul, 1) := by decide +kernel
theorem dX10_keepAll_16 : decode cX10_keepAll 16 = .ok (.iload_n 2, 1) := by decide +kernel
theorem dX10_keepAll_17 : decode cX10_keepAll 17 = .ok (.iadd, 1) := by decide +kernel
theorem dX10_keepAll_18 : decode cX10_keepAll 18 = .ok (.aload_n 0, 1) := by decide +kernel
theorem dX10_keepAll_19 : decode cX10_keepAll 19 = .ok (.getfield 7, 3) := by decide +kernel
theorem dX10_keepAll_22 : decode cX10_keepAll 22 = .ok (.iload_n 2, 1) := by decide +kernel
theorem dX10_keepAll_23 : decode cX10_keepAll 23 = .ok (.iaload, 1) := by decide +kernel
theorem dX10_keepAll_24 : decode cX10_keepAll 24 = .ok (.iastore, 1) := by decide +kernel
theorem dX10_keepAll_25 : decode cX10_keepAll 25 = .ok (.iinc 2 1, 3) := by decide +kernel
theorem dX10_keepAll_28 : decode cX10_keepAll 28 = .ok (.goto (-26), 3) := by decide +kernel
theorem dX10_keepAll_31 : decode cX10_keepAll 31 = .ok (.return_, 1) := by decide +kernel
theorem dX10_layAll_0 : decode cX10_layAll 0 = .ok (.iconst 0, 1) := by decide +kernel
theorem dX10_layAll_1 : decode cX10_layAll 1 = .ok (.istore_n 2, 1) := by decide +kernel
theorem dX10_layAll_2 : decode cX10_layAll 2 = .ok (.iload_n 2, 1) := by decide +kernel
theorem dX10_layAll_3 : decode cX10_layAll 3 = .ok (.bipush 94, 2) := by decide +kernel
theorem dX10_layAll_5 : decode cX10_layAll 5 = .ok (.if_icmp .ge 26, 3) := by decide +kernel
theorem dX10_layAll_8 : decode cX10_layAll 8 = .ok (.aload_n 0, 1) := by decide +kernel
theorem dX10_layAll_9 : decode cX10_layAll 9 = .ok (.getfield 7, 3) := by decide +kernel
theorem dX10_layAll_12 : decode cX10_layAll 12 = .ok (.iload_n 2, 1) := by decide +kernel
theorem dX10_layAll_13 : decode cX10_layAll 13 = .ok (.aload_n 0, 1) := by decide +kernel
theorem dX10_layAll_14 : decode cX10_layAll 14 = .ok (.getfield 13, 3) := by decide +kernel
theorem dX10_layAll_17 : decode cX10_layAll 17 = .ok (.bipush 94, 2) := by decide +kernel
theorem dX10_layAll_19 : decode cX10_layAll 19 = .ok (.iload_n 1, 1) := by decide +kernel
theorem dX10_layAll_20 : decode cX10_layAll 20 = .ok (.imul, 1) := by decide +kernel
theorem dX10_layAll_21 : decode cX10_layAll 21 = .ok (.iload_n 2, 1) := by decide +kernel
theorem dX10_layAll_22 : decode cX10_layAll 22 = .ok (.iadd, 1) := by decide +kernel
theorem dX10_layAll_23 : decode cX10_layAll 23 = .ok (.iaload, 1) := by decide +kernel
theorem dX10_layAll_24 : decode cX10_layAll 24 = .ok (.iastore, 1) := by decide +kernel
theorem dX10_layAll_25 : decode cX10_layAll 25 = .ok (.iinc 2 1, 3) := by decide +kernel
theorem dX10_layAll_28 : decode cX10_layAll 28 = .ok (.goto (-26), 3) := by decide +kernel
theorem dX10_layAll_31 : decode cX10_layAll 31 = .ok (.return_, 1) := by decide +kernel
theorem dX10_isGuest_0 : decode cX10_isGuest 0 = .ok (.iload_n 1, 1) := by decide +kernel
theorem dX10_isGuest_1 : decode cX10_isGuest 1 = .ok (.iconst 0, 1) := by decide +kernel
theorem dX10_isGuest_2 : decode cX10_isGuest 2 = .ok (.aload_n 0, 1) := by decide +kernel
theorem dX10_isGuest_3 : decode cX10_isGuest 3 = .ok (.getfield 103, 3) := by decide +kernel
theorem dX10_isGuest_6 : decode cX10_isGuest 6 = .ok (.iconst 1, 1) := by decide +kernel
theorem dX10_isGuest_7 : decode cX10_isGuest 7 = .ok (.isub, 1) := by decide +kernel
theorem dX10_isGuest_8 : decode cX10_isGuest 8 = .ok (.invokestatic 106, 3) := by decide +kernel
theorem dX10_isGuest_11 : decode cX10_isGuest 11 = .ok (.ireturn, 1) := by decide +kernel
theorem dX10_number_0 : decode cX10_number 0 = .ok (.aload_n 0, 1) := by decide +kernel
theorem dX10_number_1 : decode cX10_number 1 = .ok (.getfield 7, 3) := by decide +kernel
theorem dX10_number_4 : decode cX10_number 4 = .ok (.bipush 6, 2) := by decide +kernel
theorem dX10_number_6 : decode cX10_number 6 = .ok (.iload_n 1, 1) := by decide +kernel
theorem dX10_number_7 : decode cX10_number 7 = .ok (.imul, 1) := by decide +kernel
theorem dX10_number_8 : decode cX10_number 8 = .ok (.iload_n 2, 1) := by decide +kernel
theorem dX10_number_9 : decode cX10_number 9 = .ok (.iadd, 1) := by decide +kernel
theorem dX10_number_10 : decode cX10_number 10 = .ok (.iaload, 1) := by decide +kernel
theorem dX10_number_11 : decode cX10_number 11 = .ok (.ireturn, 1) := by decide +kernel
theorem dX10_change_0 : decode cX10_change 0 = .ok (.aload_n 0, 1) := by decide +kernel
theorem dX10_change_1 : decode cX10_change 1 = .ok (.getfield 7, 3) := by decide +kernel
theorem dX10_change_4 : decode cX10_change 4 = .ok (.bipush 6, 2) := by decide +kernel
theorem dX10_change_6 : decode cX10_change 6 = .ok (.iload_n 1, 1) := by decide +kernel
theorem dX10_change_7 : decode cX10_change 7 = .ok (.imul, 1) := by decide +kernel
theorem dX10_change_8 : decode cX10_change 8 = .ok (.iload_n 2, 1) := by decide +kernel
theorem dX10_change_9 : decode cX10_change 9 = .ok (.iadd, 1) := by decide +kernel
theorem dX10_change_10 : decode cX10_change 10 = .ok (.iload_n 3, 1) := by decide +kernel
theorem dX10_change_11 : decode cX10_change 11 = .ok (.iastore, 1) := by decide +kernel
theorem dX10_change_12 : decode cX10_change 12 = .ok (.return_, 1) := by decide +kernel
theorem dX10_isHere_0 : decode cX10_isHere 0 = .ok (.aload_n 0, 1) := by decide +kernel
theorem dX10_isHere_1 : decode cX10_isHere 1 = .ok (.iload_n 1, 1) := by decide +kernel
theorem dX10_isHere_2 : decode cX10_isHere 2 = .ok (.iconst 5, 1) := by decide +kernel
theorem dX10_isHere_3 : decode cX10_isHere 3 = .ok (.invokevirtual 110, 3) := by decide +kernel
theorem dX10_isHere_6 : decode cX10_isHere 6 = .ok (.ifCond .ne 7, 3) := by decide +kernel
theorem dX10_isHere_9 : decode cX10_isHere 9 = .ok (.iconst 1, 1) := by decide +kernel
theorem dX10_isHere_10 : decode cX10_isHere 10 = .ok (.goto 4, 3) := by decide +kernel
theorem dX10_isHere_13 : decode cX10_isHere 13 = .ok (.iconst 0, 1) := by decide +kernel
theorem dX10_isHere_14 : decode cX10_isHere 14 = .ok (.ireturn, 1) := by decide +kernel
theorem dX10_add_0 : decode cX10_add 0 = .ok (.aload_n 0, 1) := by decide +kernel
theorem dX10_add_1 : decode cX10_add 1 = .ok (.getfield 103, 3) := by decide +kernel
theorem dX10_add_4 : decode cX10_add 4 = .ok (.istore 6, 2) := by decide +kernel
theorem dX10_add_6 : decode cX10_add 6 = .ok (.aload_n 0, 1) := by decide +kernel
theorem dX10_add_7 : decode cX10_add 7 = .ok (.iload 6, 2) := by decide +kernel
theorem dX10_add_9 : decode cX10_add 9 = .ok (.iconst 0, 1) := by decide +kernel
theorem dX10_add_10 : decode cX10_add 10 = .ok (.iload_n 1, 1) := by decide +kernel
theorem dX10_add_11 : decode cX10_add 11 = .ok (.invokevirtual 113, 3) := by decide +kernel
theorem dX10_add_14 : decode cX10_add 14 = .ok (.aload_n 0, 1) := by decide +kernel
theorem dX10_add_15 : decode cX10_add 15 = .ok (.iload 6, 2) := by decide +kernel
theorem dX10_add_17 : decode cX10_add 17 = .ok (.iconst 1, 1) := by decide +kernel
theorem dX10_add_18 : decode cX10_add 18 = .ok (.iload_n 2, 1) := by decide +kernel
theorem dX10_add_19 : decode cX10_add 19 = .ok (.invokevirtual 113, 3) := by decide +kernel
theorem dX10_add_22 : decode cX10_add 22 = .ok (.aload_n 0, 1) := by decide +kernel
theorem dX10_add_23 : decode cX10_add 23 = .ok (.iload 6, 2) := by decide +kernel
theorem dX10_add_25 : decode cX10_add 25 = .ok (.iconst 2, 1) := by decide +kernel
theorem dX10_add_26 : decode cX10_add 26 = .ok (.iload_n 3, 1) := by decide +kernel
theorem dX10_add_27 : decode cX10_add 27 = .ok (.invokevirtual 113, 3) := by decide +kernel
theorem dX10_add_30 : decode cX10_add 30 = .ok (.aload_n 0, 1) := by decide +kernel
theorem dX10_add_31 : decode cX10_add 31 = .ok (.iload 6, 2) := by decide +kernel
theorem dX10_add_33 : decode cX10_add 33 = .ok (.iconst 3, 1) := by decide +kernel
theorem dX10_add_34 : decode cX10_add 34 = .ok (.iload 4, 2) := by decide +kernel
theorem dX10_add_36 : decode cX10_add 36 = .ok (.invokevirtual 113, 3) := by decide +kernel
theorem dX10_add_39 : decode cX10_add 39 = .ok (.aload_n 0, 1) := by decide +kernel
theorem dX10_add_40 : decode cX10_add 40 = .ok (.iload 6, 2) := by decide +kernel
theorem dX10_add_42 : decode cX10_add 42 = .ok (.iconst 4, 1) := by decide +kernel
theorem dX10_add_43 : decode cX10_add 43 = .ok (.iload 5, 2) := by decide +kernel
theorem dX10_add_45 : decode cX10_add 45 = .ok (.invokevirtual 113, 3) := by decide +kernel
theorem dX10_add_48 : decode cX10_add 48 = .ok (.aload_n 0, 1) := by decide +kernel
theorem dX10_add_49 : decode cX10_add 49 = .ok (.iload 6, 2) := by decide +kernel
theorem dX10_add_51 : decode cX10_add 51 = .ok (.iconst 5, 1) := by decide +kernel
theorem dX10_add_52 : decode cX10_add 52 = .ok (.iconst 0, 1) := by decide +kernel
theorem dX10_add_53 : decode cX10_add 53 = .ok (.invokevirtual 113, 3) := by decide +kernel
theorem dX10_add_56 : decode cX10_add 56 = .ok (.aload_n 0, 1) := by decide +kernel
theorem dX10_add_57 : decode cX10_add 57 = .ok (.dup, 1) := by decide +kernel
theorem dX10_add_58 : decode cX10_add 58 = .ok (.getfield 103, 3) := by decide +kernel
theorem dX10_add_61 : decode cX10_add 61 = .ok (.iconst 1, 1) := by decide +kernel
theorem dX10_add_62 : decode cX10_add 62 = .ok (.iadd, 1) := by decide +kernel
theorem dX10_add_63 : decode cX10_add 63 = .ok (.putfield 103, 3) := by decide +kernel
theorem dX10_add_66 : decode cX10_add 66 = .ok (.iload 6, 2) := by decide +kernel
theorem dX10_add_68 : decode cX10_add 68 = .ok (.ireturn, 1) := by decide +kernel
theorem dX10_guest_0 : decode cX10_guest 0 = .ok (.iload_n 1, 1) := by decide +kernel
theorem dX10_guest_1 : decode cX10_guest 1 = .ok (.iconst 0, 1) := by decide +kernel
theorem dX10_guest_2 : decode cX10_guest 2 = .ok (.iconst 1, 1) := by decide +kernel
theorem dX10_guest_3 : decode cX10_guest 3 = .ok (.invokestatic 106, 3) := by decide +kernel
theorem dX10_guest_6 : decode cX10_guest 6 = .ok (.ifCond .eq 13, 3) := by decide +kernel
theorem dX10_guest_9 : decode cX10_guest 9 = .ok (.iload_n 2, 1) := by decide +kernel
theorem dX10_guest_10 : decode cX10_guest 10 = .ok (.iconst 5, 1) := by decide +kernel
theorem dX10_guest_11 : decode cX10_guest 11 = .ok (.bipush 9, 2) := by decide +kernel
theorem dX10_guest_13 : decode cX10_guest 13 = .ok (.invokestatic 106, 3) := by decide +kernel
theorem dX10_guest_16 : decode cX10_guest 16 = .ok (.ifCond .ne 5, 3) := by decide +kernel
theorem dX10_guest_19 : decode cX10_guest 19 = .ok (.iconst (-1), 1) := by decide +kernel
theorem dX10_guest_20 : decode cX10_guest 20 = .ok (.ireturn, 1) := by decide +kernel
theorem dX10_guest_21 : decode cX10_guest 21 = .ok (.aload_n 0, 1) := by decide +kernel
theorem dX10_guest_22 : decode cX10_guest 22 = .ok (.getfield 103, 3) := by decide +kernel
theorem dX10_guest_25 : decode cX10_guest 25 = .ok (.bipush 9, 2) := by decide +kernel
theorem dX10_guest_27 : decode cX10_guest 27 = .ok (.if_icmp .ne 8, 3) := by decide +kernel
theorem dX10_guest_30 : decode cX10_guest 30 = .ok (.bipush (-3), 2) := by decide +kernel
theorem dX10_guest_32 : decode cX10_guest 32 = .ok (.goto 12, 3) := by decide +kernel
theorem dX10_guest_35 : decode cX10_guest 35 = .ok (.aload_n 0, 1) := by decide +kernel
theorem dX10_guest_36 : decode cX10_guest 36 = .ok (.iconst 0, 1) := by decide +kernel
theorem dX10_guest_37 : decode cX10_guest 37 = .ok (.iconst 1, 1) := by decide +kernel
theorem dX10_guest_38 : decode cX10_guest 38 = .ok (.iconst 0, 1) := by decide +kernel
theorem dX10_guest_39 : decode cX10_guest 39 = .ok (.iload_n 1, 1) := by decide +kernel
theorem dX10_guest_40 : decode cX10_guest 40 = .ok (.iload_n 2, 1) := by decide +kernel
theorem dX10_guest_41 : decode cX10_guest 41 = .ok (.invokevirtual 117, 3) := by decide +kernel
theorem dX10_guest_44 : decode cX10_guest 44 = .ok (.ireturn, 1) := by decide +kernel
theorem dX10_addSlip_0 : decode cX10_addSlip 0 = .ok (.bipush 54, 2) := by decide +kernel
theorem dX10_addSlip_2 : decode cX10_addSlip 2 = .ok (.iconst 3, 1) := by decide +kernel
theorem dX10_addSlip_3 : decode cX10_addSlip 3 = .ok (.aload_n 0, 1) := by decide +kernel
theorem dX10_addSlip_4 : decode cX10_addSlip 4 = .ok (.getfield 121, 3) := by decide +kernel
theorem dX10_addSlip_7 : decode cX10_addSlip 7 = .ok (.imul, 1) := by decide +kernel
theorem dX10_addSlip_8 : decode cX10_addSlip 8 = .ok (.iadd, 1) := by decide +kernel
theorem dX10_addSlip_9 : decode cX10_addSlip 9 = .ok (.istore 4, 2) := by decide +kernel
theorem dX10_addSlip_11 : decode cX10_addSlip 11 = .ok (.aload_n 0, 1) := by decide +kernel
theorem dX10_addSlip_12 : decode cX10_addSlip 12 = .ok (.getfield 7, 3) := by decide +kernel
theorem dX10_addSlip_15 : decode cX10_addSlip 15 = .ok (.iload 4, 2) := by decide +kernel
theorem dX10_addSlip_17 : decode cX10_addSlip 17 = .ok (.iload_n 2, 1) := by decide +kernel
theorem dX10_addSlip_18 : decode cX10_addSlip 18 = .ok (.iastore, 1) := by decide +kernel
theorem dX10_addSlip_19 : decode cX10_addSlip 19 = .ok (.aload_n 0, 1) := by decide +kernel
theorem dX10_addSlip_20 : decode cX10_addSlip 20 = .ok (.getfield 7, 3) := by decide +kernel
theorem dX10_addSlip_23 : decode cX10_addSlip 23 = .ok (.iload 4, 2) := by decide +kernel
theorem dX10_addSlip_25 : decode cX10_addSlip 25 = .ok (.iconst 1, 1) := by decide +kernel
theorem dX10_addSlip_26 : decode cX10_addSlip 26 = .ok (.iadd, 1) := by decide +kernel
theorem dX10_addSlip_27 : decode cX10_addSlip 27 = .ok (.iload_n 3, 1) := by decide +kernel
theorem dX10_addSlip_28 : decode cX10_addSlip 28 = .ok (.iastore, 1) := by decide +kernel
theorem dX10_addSlip_29 : decode cX10_addSlip 29 = .ok (.aload_n 0, 1) := by decide +kernel
theorem dX10_addSlip_30 : decode cX10_addSlip 30 = .ok (.getfield 7, 3) := by decide +kernel
theorem dX10_addSlip_33 : decode cX10_addSlip 33 = .ok (.iload 4, 2) := by decide +kernel
theorem dX10_addSlip_35 : decode cX10_addSlip 35 = .ok (.iconst 2, 1) := by decide +kernel
theorem dX10_addSlip_36 : decode cX10_addSlip 36 = .ok (.iadd, 1) := by decide +kernel
theorem dX10_addSlip_37 : decode cX10_addSlip 37 = .ok (.iload_n 1, 1) := by decide +kernel
theorem dX10_addSlip_38 : decode cX10_addSlip 38 = .ok (.iastore, 1) := by decide +kernel
theorem dX10_addSlip_39 : decode cX10_addSlip 39 = .ok (.aload_n 0, 1) := by decide +kernel
theorem dX10_addSlip_40 : decode cX10_addSlip 40 = .ok (.dup, 1) := by decide +kernel
theorem dX10_addSlip_41 : decode cX10_addSlip 41 = .ok (.getfield 121, 3) := by decide +kernel
theorem dX10_addSlip_44 : decode cX10_addSlip 44 = .ok (.iconst 1, 1) := by decide +kernel
theorem dX10_addSlip_45 : decode cX10_addSlip 45 = .ok (.iadd, 1) := by decide +kernel
