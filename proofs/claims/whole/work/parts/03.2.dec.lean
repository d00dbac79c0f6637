theorem dX10_addSlip_46 : decode cX10_addSlip 46 = .ok (.putfield 121, 3) := by decide +kernel
theorem dX10_addSlip_49 : decode cX10_addSlip 49 = .ok (.aload_n 0, 1) := by decide +kernel
theorem dX10_addSlip_50 : decode cX10_addSlip 50 = .ok (.getfield 121, 3) := by decide +kernel
theorem dX10_addSlip_53 : decode cX10_addSlip 53 = .ok (.iconst 1, 1) := by decide +kernel
theorem dX10_addSlip_54 : decode cX10_addSlip 54 = .ok (.isub, 1) := by decide +kernel
theorem dX10_addSlip_55 : decode cX10_addSlip 55 = .ok (.ireturn, 1) := by decide +kernel
theorem dX10_slip_0 : decode cX10_slip 0 = .ok (.aload_n 0, 1) := by decide +kernel
theorem dX10_slip_1 : decode cX10_slip 1 = .ok (.iload_n 1, 1) := by decide +kernel
theorem dX10_slip_2 : decode cX10_slip 2 = .ok (.invokevirtual 124, 3) := by decide +kernel
theorem dX10_slip_5 : decode cX10_slip 5 = .ok (.ifCond .eq 24, 3) := by decide +kernel
theorem dX10_slip_8 : decode cX10_slip 8 = .ok (.iload_n 2, 1) := by decide +kernel
theorem dX10_slip_9 : decode cX10_slip 9 = .ok (.iconst 0, 1) := by decide +kernel
theorem dX10_slip_10 : decode cX10_slip 10 = .ok (.sipush 199, 3) := by decide +kernel
theorem dX10_slip_13 : decode cX10_slip 13 = .ok (.invokestatic 106, 3) := by decide +kernel
theorem dX10_slip_16 : decode cX10_slip 16 = .ok (.ifCond .eq 13, 3) := by decide +kernel
theorem dX10_slip_19 : decode cX10_slip 19 = .ok (.iload_n 3, 1) := by decide +kernel
theorem dX10_slip_20 : decode cX10_slip 20 = .ok (.iconst 1, 1) := by decide +kernel
theorem dX10_slip_21 : decode cX10_slip 21 = .ok (.bipush 30, 2) := by decide +kernel
theorem dX10_slip_23 : decode cX10_slip 23 = .ok (.invokestatic 106, 3) := by decide +kernel
theorem dX10_slip_26 : decode cX10_slip 26 = .ok (.ifCond .ne 5, 3) := by decide +kernel
theorem dX10_slip_29 : decode cX10_slip 29 = .ok (.iconst (-1), 1) := by decide +kernel
theorem dX10_slip_30 : decode cX10_slip 30 = .ok (.ireturn, 1) := by decide +kernel
theorem dX10_slip_31 : decode cX10_slip 31 = .ok (.aload_n 0, 1) := by decide +kernel
theorem dX10_slip_32 : decode cX10_slip 32 = .ok (.getfield 121, 3) := by decide +kernel
theorem dX10_slip_35 : decode cX10_slip 35 = .ok (.bipush 12, 2) := by decide +kernel
theorem dX10_slip_37 : decode cX10_slip 37 = .ok (.if_icmp .ne 8, 3) := by decide +kernel
theorem dX10_slip_40 : decode cX10_slip 40 = .ok (.bipush (-3), 2) := by decide +kernel
theorem dX10_slip_42 : decode cX10_slip 42 = .ok (.goto 10, 3) := by decide +kernel
theorem dX10_slip_45 : decode cX10_slip 45 = .ok (.aload_n 0, 1) := by decide +kernel
theorem dX10_slip_46 : decode cX10_slip 46 = .ok (.iload_n 1, 1) := by decide +kernel
theorem dX10_slip_47 : decode cX10_slip 47 = .ok (.iload_n 2, 1) := by decide +kernel
theorem dX10_slip_48 : decode cX10_slip 48 = .ok (.iload_n 3, 1) := by decide +kernel
theorem dX10_slip_49 : decode cX10_slip 49 = .ok (.invokevirtual 128, 3) := by decide +kernel
theorem dX10_slip_52 : decode cX10_slip 52 = .ok (.ireturn, 1) := by decide +kernel
theorem dX10_place_0 : decode cX10_place 0 = .ok (.iload_n 2, 1) := by decide +kernel
theorem dX10_place_1 : decode cX10_place 1 = .ok (.bipush 8, 2) := by decide +kernel
theorem dX10_place_3 : decode cX10_place 3 = .ok (.if_icmp .ne 14, 3) := by decide +kernel
theorem dX10_place_6 : decode cX10_place 6 = .ok (.iload_n 1, 1) := by decide +kernel
theorem dX10_place_7 : decode cX10_place 7 = .ok (.ifCond .ne 8, 3) := by decide +kernel
theorem dX10_place_10 : decode cX10_place 10 = .ok (.bipush 93, 2) := by decide +kernel
theorem dX10_place_12 : decode cX10_place 12 = .ok (.goto 4, 3) := by decide +kernel
theorem dX10_place_15 : decode cX10_place 15 = .ok (.iconst (-1), 1) := by decide +kernel
theorem dX10_place_16 : decode cX10_place 16 = .ok (.ireturn, 1) := by decide +kernel
theorem dX10_place_17 : decode cX10_place 17 = .ok (.iload_n 2, 1) := by decide +kernel
theorem dX10_place_18 : decode cX10_place 18 = .ok (.bipush 6, 2) := by decide +kernel
theorem dX10_place_20 : decode cX10_place 20 = .ok (.if_icmp .eq 9, 3) := by decide +kernel
theorem dX10_place_23 : decode cX10_place 23 = .ok (.iload_n 2, 1) := by decide +kernel
theorem dX10_place_24 : decode cX10_place 24 = .ok (.bipush 7, 2) := by decide +kernel
theorem dX10_place_26 : decode cX10_place 26 = .ok (.if_icmp .ne 33, 3) := by decide +kernel
theorem dX10_place_29 : decode cX10_place 29 = .ok (.iload_n 1, 1) := by decide +kernel
theorem dX10_place_30 : decode cX10_place 30 = .ok (.iconst 0, 1) := by decide +kernel
theorem dX10_place_31 : decode cX10_place 31 = .ok (.aload_n 0, 1) := by decide +kernel
theorem dX10_place_32 : decode cX10_place 32 = .ok (.getfield 121, 3) := by decide +kernel
theorem dX10_place_35 : decode cX10_place 35 = .ok (.iconst 1, 1) := by decide +kernel
theorem dX10_place_36 : decode cX10_place 36 = .ok (.isub, 1) := by decide +kernel
theorem dX10_place_37 : decode cX10_place 37 = .ok (.invokestatic 106, 3) := by decide +kernel
theorem dX10_place_40 : decode cX10_place 40 = .ok (.ifCond .eq 17, 3) := by decide +kernel
theorem dX10_place_43 : decode cX10_place 43 = .ok (.bipush 54, 2) := by decide +kernel
theorem dX10_place_45 : decode cX10_place 45 = .ok (.iconst 3, 1) := by decide +kernel
theorem dX10_place_46 : decode cX10_place 46 = .ok (.iload_n 1, 1) := by decide +kernel
theorem dX10_place_47 : decode cX10_place 47 = .ok (.imul, 1) := by decide +kernel
theorem dX10_place_48 : decode cX10_place 48 = .ok (.iadd, 1) := by decide +kernel
theorem dX10_place_49 : decode cX10_place 49 = .ok (.iload_n 2, 1) := by decide +kernel
theorem dX10_place_50 : decode cX10_place 50 = .ok (.iadd, 1) := by decide +kernel
theorem dX10_place_51 : decode cX10_place 51 = .ok (.bipush 6, 2) := by decide +kernel
theorem dX10_place_53 : decode cX10_place 53 = .ok (.isub, 1) := by decide +kernel
theorem dX10_place_54 : decode cX10_place 54 = .ok (.goto 4, 3) := by decide +kernel
theorem dX10_place_57 : decode cX10_place 57 = .ok (.iconst (-1), 1) := by decide +kernel
theorem dX10_place_58 : decode cX10_place 58 = .ok (.ireturn, 1) := by decide +kernel
theorem dX10_place_59 : decode cX10_place 59 = .ok (.iload_n 2, 1) := by decide +kernel
theorem dX10_place_60 : decode cX10_place 60 = .ok (.iconst 0, 1) := by decide +kernel
theorem dX10_place_61 : decode cX10_place 61 = .ok (.iconst 5, 1) := by decide +kernel
theorem dX10_place_62 : decode cX10_place 62 = .ok (.invokestatic 106, 3) := by decide +kernel
theorem dX10_place_65 : decode cX10_place 65 = .ok (.ifCond .eq 20, 3) := by decide +kernel
theorem dX10_place_68 : decode cX10_place 68 = .ok (.aload_n 0, 1) := by decide +kernel
theorem dX10_place_69 : decode cX10_place 69 = .ok (.iload_n 1, 1) := by decide +kernel
theorem dX10_place_70 : decode cX10_place 70 = .ok (.invokevirtual 124, 3) := by decide +kernel
theorem dX10_place_73 : decode cX10_place 73 = .ok (.ifCond .eq 12, 3) := by decide +kernel
theorem dX10_place_76 : decode cX10_place 76 = .ok (.bipush 6, 2) := by decide +kernel
theorem dX10_place_78 : decode cX10_place 78 = .ok (.iload_n 1, 1) := by decide +kernel
theorem dX10_place_79 : decode cX10_place 79 = .ok (.imul, 1) := by decide +kernel
theorem dX10_place_80 : decode cX10_place 80 = .ok (.iload_n 2, 1) := by decide +kernel
theorem dX10_place_81 : decode cX10_place 81 = .ok (.iadd, 1) := by decide +kernel
theorem dX10_place_82 : decode cX10_place 82 = .ok (.goto 4, 3) := by decide +kernel
theorem dX10_place_85 : decode cX10_place 85 = .ok (.iconst (-1), 1) := by decide +kernel
theorem dX10_place_86 : decode cX10_place 86 = .ok (.ireturn, 1) := by decide +kernel
theorem dX10_mend_0 : decode cX10_mend 0 = .ok (.aload_n 0, 1) := by decide +kernel
theorem dX10_mend_1 : decode cX10_mend 1 = .ok (.iload_n 1, 1) := by decide +kernel
theorem dX10_mend_2 : decode cX10_mend 2 = .ok (.iload_n 2, 1) := by decide +kernel
theorem dX10_mend_3 : decode cX10_mend 3 = .ok (.invokevirtual 132, 3) := by decide +kernel
theorem dX10_mend_6 : decode cX10_mend 6 = .ok (.istore 4, 2) := by decide +kernel
theorem dX10_mend_8 : decode cX10_mend 8 = .ok (.iload 4, 2) := by decide +kernel
theorem dX10_mend_10 : decode cX10_mend 10 = .ok (.iconst (-1), 1) := by decide +kernel
theorem dX10_mend_11 : decode cX10_mend 11 = .ok (.if_icmp .eq 22, 3) := by decide +kernel
theorem dX10_mend_14 : decode cX10_mend 14 = .ok (.iload_n 3, 1) := by decide +kernel
theorem dX10_mend_15 : decode cX10_mend 15 = .ok (.aload_n 0, 1) := by decide +kernel
theorem dX10_mend_16 : decode cX10_mend 16 = .ok (.getfield 25, 3) := by decide +kernel
theorem dX10_mend_19 : decode cX10_mend 19 = .ok (.iload_n 2, 1) := by decide +kernel
theorem dX10_mend_20 : decode cX10_mend 20 = .ok (.iaload, 1) := by decide +kernel
theorem dX10_mend_21 : decode cX10_mend 21 = .ok (.aload_n 0, 1) := by decide +kernel
theorem dX10_mend_22 : decode cX10_mend 22 = .ok (.getfield 28, 3) := by decide +kernel
theorem dX10_mend_25 : decode cX10_mend 25 = .ok (.iload_n 2, 1) := by decide +kernel
theorem dX10_mend_26 : decode cX10_mend 26 = .ok (.iaload, 1) := by decide +kernel
theorem dX10_mend_27 : decode cX10_mend 27 = .ok (.invokestatic 106, 3) := by decide +kernel
theorem dX10_mend_30 : decode cX10_mend 30 = .ok (.ifCond .ne 5, 3) := by decide +kernel
theorem dX10_mend_33 : decode cX10_mend 33 = .ok (.iconst (-1), 1) := by decide +kernel
theorem dX10_mend_34 : decode cX10_mend 34 = .ok (.ireturn, 1) := by decide +kernel
theorem dX10_mend_35 : decode cX10_mend 35 = .ok (.aload_n 0, 1) := by decide +kernel
theorem dX10_mend_36 : decode cX10_mend 36 = .ok (.getfield 7, 3) := by decide +kernel
theorem dX10_mend_39 : decode cX10_mend 39 = .ok (.iload 4, 2) := by decide +kernel
theorem dX10_mend_41 : decode cX10_mend 41 = .ok (.iaload, 1) := by decide +kernel
theorem dX10_mend_42 : decode cX10_mend 42 = .ok (.istore 5, 2) := by decide +kernel
theorem dX10_mend_44 : decode cX10_mend 44 = .ok (.iload 5, 2) := by decide +kernel
theorem dX10_mend_46 : decode cX10_mend 46 = .ok (.iload_n 3, 1) := by decide +kernel
theorem dX10_mend_47 : decode cX10_mend 47 = .ok (.if_icmp .eq 144, 3) := by decide +kernel
theorem dX10_mend_50 : decode cX10_mend 50 = .ok (.aload_n 0, 1) := by decide +kernel
theorem dX10_mend_51 : decode cX10_mend 51 = .ok (.getfield 7, 3) := by decide +kernel
theorem dX10_mend_54 : decode cX10_mend 54 = .ok (.iload 4, 2) := by decide +kernel
theorem dX10_mend_56 : decode cX10_mend 56 = .ok (.iload_n 3, 1) := by decide +kernel
theorem dX10_mend_57 : decode cX10_mend 57 = .ok (.iastore, 1) := by decide +kernel
theorem dX10_mend_58 : decode cX10_mend 58 = .ok (.aload_n 0, 1) := by decide +kernel
theorem dX10_mend_59 : decode cX10_mend 59 = .ok (.getfield 135, 3) := by decide +kernel
theorem dX10_mend_62 : decode cX10_mend 62 = .ok (.bipush 40, 2) := by decide +kernel
theorem dX10_mend_64 : decode cX10_mend 64 = .ok (.if_icmp .ne 77, 3) := by decide +kernel
theorem dX10_mend_67 : decode cX10_mend 67 = .ok (.iconst 1, 1) := by decide +kernel
theorem dX10_mend_68 : decode cX10_mend 68 = .ok (.istore 6, 2) := by decide +kernel
theorem dX10_mend_70 : decode cX10_mend 70 = .ok (.iload 6, 2) := by decide +kernel
theorem dX10_mend_72 : decode cX10_mend 72 = .ok (.bipush 40, 2) := by decide +kernel
theorem dX10_mend_74 : decode cX10_mend 74 = .ok (.if_icmp .ge 57, 3) := by decide +kernel
theorem dX10_mend_77 : decode cX10_mend 77 = .ok (.aload_n 0, 1) := by decide +kernel
theorem dX10_mend_78 : decode cX10_mend 78 = .ok (.getfield 16, 3) := by decide +kernel
theorem dX10_mend_81 : decode cX10_mend 81 = .ok (.iload 6, 2) := by decide +kernel
theorem dX10_mend_83 : decode cX10_mend 83 = .ok (.iconst 1, 1) := by decide +kernel
theorem dX10_mend_84 : decode cX10_mend 84 = .ok (.isub, 1) := by decide +kernel
theorem dX10_mend_85 : decode cX10_mend 85 = .ok (.aload_n 0, 1) := by decide +kernel
theorem dX10_mend_86 : decode cX10_mend 86 = .ok (.getfield 16, 3) := by decide +kernel
theorem dX10_mend_89 : decode cX10_mend 89 = .ok (.iload 6, 2) := by decide +kernel
theorem dX10_mend_91 : decode cX10_mend 91 = .ok (.iaload, 1) := by decide +kernel
theorem dX10_mend_92 : decode cX10_mend 92 = .ok (.iastore, 1) := by decide +kernel
theorem dX10_mend_93 : decode cX10_mend 93 = .ok (.aload_n 0, 1) := by decide +kernel
theorem dX10_mend_94 : decode cX10_mend 94 = .ok (.getfield 19, 3) := by decide +kernel
theorem dX10_mend_97 : decode cX10_mend 97 = .ok (.iload 6, 2) := by decide +kernel
theorem dX10_mend_99 : decode cX10_mend 99 = .ok (.iconst 1, 1) := by decide +kernel
theorem dX10_mend_100 : decode cX10_mend 100 = .ok (.isub, 1) := by decide +kernel
theorem dX10_mend_101 : decode cX10_mend 101 = .ok (.aload_n 0, 1) := by decide +kernel
theorem dX10_mend_102 : decode cX10_mend 102 = .ok (.getfield 19, 3) := by decide +kernel
theorem dX10_mend_105 : decode cX10_mend 105 = .ok (.iload 6, 2) := by decide +kernel
theorem dX10_mend_107 : decode cX10_mend 107 = .ok (.iaload, 1) := by decide +kernel
theorem dX10_mend_108 : decode cX10_mend 108 = .ok (.iastore, 1) := by decide +kernel
theorem dX10_mend_109 : decode cX10_mend 109 = .ok (.aload_n 0, 1) := by decide +kernel
theorem dX10_mend_110 : decode cX10_mend 110 = .ok (.getfield 22, 3) := by decide +kernel
theorem dX10_mend_113 : decode cX10_mend 113 = .ok (.iload 6, 2) := by decide +kernel
theorem dX10_mend_115 : decode cX10_mend 115 = .ok (.iconst 1, 1) := by decide +kernel
theorem dX10_mend_116 : decode cX10_mend 116 = .ok (.isub, 1) := by decide +kernel
theorem dX10_mend_117 : decode cX10_mend 117 = .ok (.aload_n 0, 1) := by decide +kernel
theorem dX10_mend_118 : decode cX10_mend 118 = .ok (.getfield 22, 3) := by decide +kernel
theorem dX10_mend_121 : decode cX10_mend 121 = .ok (.iload 6, 2) := by decide +kernel
theorem dX10_mend_123 : decode cX10_mend 123 = .ok (.iaload, 1) := by decide +kernel
theorem dX10_mend_124 : decode cX10_mend 124 = .ok (.iastore, 1) := by decide +kernel
theorem dX10_mend_125 : decode cX10_mend 125 = .ok (.iinc 6 1, 3) := by decide +kernel
theorem dX10_mend_128 : decode cX10_mend 128 = .ok (.goto (-58), 3) := by decide +kernel
theorem dX10_mend_131 : decode cX10_mend 131 = .ok (.aload_n 0, 1) := by decide +kernel
theorem dX10_mend_132 : decode cX10_mend 132 = .ok (.dup, 1) := by decide +kernel
theorem dX10_mend_133 : decode cX10_mend 133 = .ok (.getfield 135, 3) := by decide +kernel
theorem dX10_mend_136 : decode cX10_mend 136 = .ok (.iconst 1, 1) := by decide +kernel
theorem dX10_mend_137 : decode cX10_mend 137 = .ok (.isub, 1) := by decide +kernel
theorem dX10_mend_138 : decode cX10_mend 138 = .ok (.putfield 135, 3) := by decide +kernel
theorem dX10_mend_141 : decode cX10_mend 141 = .ok (.aload_n 0, 1) := by decide +kernel
theorem dX10_mend_142 : decode cX10_mend 142 = .ok (.getfield 16, 3) := by decide +kernel
theorem dX10_mend_145 : decode cX10_mend 145 = .ok (.aload_n 0, 1) := by decide +kernel
theorem dX10_mend_146 : decode cX10_mend 146 = .ok (.getfield 135, 3) := by decide +kernel
theorem dX10_mend_149 : decode cX10_mend 149 = .ok (.iload 4, 2) := by decide +kernel
theorem dX10_mend_151 : decode cX10_mend 151 = .ok (.iastore, 1) := by decide +kernel
theorem dX10_mend_152 : decode cX10_mend 152 = .ok (.aload_n 0, 1) := by decide +kernel
theorem dX10_mend_153 : decode cX10_mend 153 = .ok (.getfield 19, 3) := by decide +kernel
theorem dX10_mend_156 : decode cX10_mend 156 = .ok (.aload_n 0, 1) := by decide +kernel
theorem dX10_mend_157 : decode cX10_mend 157 = .ok (.getfield 135, 3) := by decide +kernel
theorem dX10_mend_160 : decode cX10_mend 160 = .ok (.iload 5, 2) := by decide +kernel
theorem dX10_mend_162 : decode cX10_mend 162 = .ok (.iastore, 1) := by decide +kernel
theorem dX10_mend_163 : decode cX10_mend 163 = .ok (.aload_n 0, 1) := by decide +kernel
theorem dX10_mend_164 : decode cX10_mend 164 = .ok (.getfield 22, 3) := by decide +kernel
theorem dX10_mend_167 : decode cX10_mend 167 = .ok (.aload_n 0, 1) := by decide +kernel
theorem dX10_mend_168 : decode cX10_mend 168 = .ok (.getfield 135, 3) := by decide +kernel
theorem dX10_mend_171 : decode cX10_mend 171 = .ok (.iload_n 3, 1) := by decide +kernel
theorem dX10_mend_172 : decode cX10_mend 172 = .ok (.iastore, 1) := by decide +kernel
theorem dX10_mend_173 : decode cX10_mend 173 = .ok (.aload_n 0, 1) := by decide +kernel
theorem dX10_mend_174 : decode cX10_mend 174 = .ok (.dup, 1) := by decide +kernel
theorem dX10_mend_175 : decode cX10_mend 175 = .ok (.getfield 135, 3) := by decide +kernel
theorem dX10_mend_178 : decode cX10_mend 178 = .ok (.iconst 1, 1) := by decide +kernel
theorem dX10_mend_179 : decode cX10_mend 179 = .ok (.iadd, 1) := by decide +kernel
theorem dX10_mend_180 : decode cX10_mend 180 = .ok (.putfield 135, 3) := by decide +kernel
theorem dX10_mend_183 : decode cX10_mend 183 = .ok (.aload_n 0, 1) := by decide +kernel
theorem dX10_mend_184 : decode cX10_mend 184 = .ok (.aload_n 0, 1) := by decide +kernel
theorem dX10_mend_185 : decode cX10_mend 185 = .ok (.getfield 135, 3) := by decide +kernel
theorem dX10_mend_188 : decode cX10_mend 188 = .ok (.putfield 138, 3) := by decide +kernel
theorem dX10_mend_191 : decode cX10_mend 191 = .ok (.iload 5, 2) := by decide +kernel
theorem dX10_mend_193 : decode cX10_mend 193 = .ok (.ireturn, 1) := by decide +kernel
theorem dX10_of_0 : decode cX10_of 0 = .ok (.iload_n 2, 1) := by decide +kernel
theorem dX10_of_1 : decode cX10_of 1 = .ok (.bipush 9, 2) := by decide +kernel
theorem dX10_of_3 : decode cX10_of 3 = .ok (.if_icmp .ne 35, 3) := by decide +kernel
theorem dX10_of_6 : decode cX10_of 6 = .ok (.iload_n 1, 1) := by decide +kernel
theorem dX10_of_7 : decode cX10_of 7 = .ok (.iconst 0, 1) := by decide +kernel
theorem dX10_of_8 : decode cX10_of 8 = .ok (.aload_n 0, 1) := by decide +kernel
theorem dX10_of_9 : decode cX10_of 9 = .ok (.getfield 121, 3) := by decide +kernel
theorem dX10_of_12 : decode cX10_of 12 = .ok (.iconst 1, 1) := by decide +kernel
theorem dX10_of_13 : decode cX10_of 13 = .ok (.isub, 1) := by decide +kernel
theorem dX10_of_14 : decode cX10_of 14 = .ok (.invokestatic 106, 3) := by decide +kernel
theorem dX10_of_17 : decode cX10_of 17 = .ok (.ifCond .eq 19, 3) := by decide +kernel
theorem dX10_of_20 : decode cX10_of 20 = .ok (.aload_n 0, 1) := by decide +kernel
theorem dX10_of_21 : decode cX10_of 21 = .ok (.getfield 7, 3) := by decide +kernel
theorem dX10_of_24 : decode cX10_of 24 = .ok (.bipush 54, 2) := by decide +kernel
theorem dX10_of_26 : decode cX10_of 26 = .ok (.iconst 3, 1) := by decide +kernel
theorem dX10_of_27 : decode cX10_of 27 = .ok (.iload_n 1, 1) := by decide +kernel
theorem dX10_of_28 : decode cX10_of 28 = .ok (.imul, 1) := by decide +kernel
theorem dX10_of_29 : decode cX10_of 29 = .ok (.iadd, 1) := by decide +kernel
theorem dX10_of_30 : decode cX10_of 30 = .ok (.iconst 2, 1) := by decide +kernel
theorem dX10_of_31 : decode cX10_of 31 = .ok (.iadd, 1) := by decide +kernel
theorem dX10_of_32 : decode cX10_of 32 = .ok (.iaload, 1) := by decide +kernel
theorem dX10_of_33 : decode cX10_of 33 = .ok (.goto 4, 3) := by decide +kernel
theorem dX10_of_36 : decode cX10_of 36 = .ok (.iconst (-1), 1) := by decide +kernel
theorem dX10_of_37 : decode cX10_of 37 = .ok (.ireturn, 1) := by decide +kernel
theorem dX10_of_38 : decode cX10_of 38 = .ok (.aload_n 0, 1) := by decide +kernel
theorem dX10_of_39 : decode cX10_of 39 = .ok (.iload_n 1, 1) := by decide +kernel
theorem dX10_of_40 : decode cX10_of 40 = .ok (.iload_n 2, 1) := by decide +kernel
theorem dX10_of_41 : decode cX10_of 41 = .ok (.invokevirtual 132, 3) := by decide +kernel
theorem dX10_of_44 : decode cX10_of 44 = .ok (.istore_n 3, 1) := by decide +kernel
theorem dX10_of_45 : decode cX10_of 45 = .ok (.iload_n 3, 1) := by decide +kernel
theorem dX10_of_46 : decode cX10_of 46 = .ok (.iconst (-1), 1) := by decide +kernel
theorem dX10_of_47 : decode cX10_of 47 = .ok (.if_icmp .ne 7, 3) := by decide +kernel
theorem dX10_of_50 : decode cX10_of 50 = .ok (.iconst (-1), 1) := by decide +kernel
theorem dX10_of_51 : decode cX10_of 51 = .ok (.goto 9, 3) := by decide +kernel
theorem dX10_of_54 : decode cX10_of 54 = .ok (.aload_n 0, 1) := by decide +kernel
theorem dX10_of_55 : decode cX10_of 55 = .ok (.getfield 7, 3) := by decide +kernel
theorem dX10_of_58 : decode cX10_of 58 = .ok (.iload_n 3, 1) := by decide +kernel
theorem dX10_of_59 : decode cX10_of 59 = .ok (.iaload, 1) := by decide +kernel
theorem dX10_of_60 : decode cX10_of 60 = .ok (.ireturn, 1) := by decide +kernel
theorem dX10_undo_0 : decode cX10_undo 0 = .ok (.aload_n 0, 1) := by decide +kernel
theorem dX10_undo_1 : decode cX10_undo 1 = .ok (.getfield 135, 3) := by decide +kernel
theorem dX10_undo_4 : decode cX10_undo 4 = .ok (.ifCond .ne 6, 3) := by decide +kernel
theorem dX10_undo_7 : decode cX10_undo 7 = .ok (.bipush (-5), 2) := by decide +kernel
theorem dX10_undo_9 : decode cX10_undo 9 = .ok (.ireturn, 1) := by decide +kernel
theorem dX10_undo_10 : decode cX10_undo 10 = .ok (.aload_n 0, 1) := by decide +kernel
theorem dX10_undo_11 : decode cX10_undo 11 = .ok (.dup, 1) := by decide +kernel
theorem dX10_undo_12 : decode cX10_undo 12 = .ok (.getfield 135, 3) := by decide +kernel
theorem dX10_undo_15 : decode cX10_undo 15 = .ok (.iconst 1, 1) := by decide +kernel
theorem dX10_undo_16 : decode cX10_undo 16 = .ok (.isub, 1) := by decide +kernel
theorem dX10_undo_17 : decode cX10_undo 17 = .ok (.putfield 135, 3) := by decide +kernel
theorem dX10_undo_20 : decode cX10_undo 20 = .ok (.aload_n 0, 1) := by decide +kernel
theorem dX10_undo_21 : decode cX10_undo 21 = .ok (.getfield 7, 3) := by decide +kernel
theorem dX10_undo_24 : decode cX10_undo 24 = .ok (.aload_n 0, 1) := by decide +kernel
theorem dX10_undo_25 : decode cX10_undo 25 = .ok (.getfield 16, 3) := by decide +kernel
theorem dX10_undo_28 : decode cX10_undo 28 = .ok (.aload_n 0, 1) := by decide +kernel
theorem dX10_undo_29 : decode cX10_undo 29 = .ok (.getfield 135, 3) := by decide +kernel
theorem dX10_undo_32 : decode cX10_undo 32 = .ok (.iaload, 1) := by decide +kernel
theorem dX10_undo_33 : decode cX10_undo 33 = .ok (.aload_n 0, 1) := by decide +kernel
theorem dX10_undo_34 : decode cX10_undo 34 = .ok (.getfield 19, 3) := by decide +kernel
theorem dX10_undo_37 : decode cX10_undo 37 = .ok (.aload_n 0, 1) := by decide +kernel
theorem dX10_undo_38 : decode cX10_undo 38 = .ok (.getfield 135, 3) := by decide +kernel
theorem dX10_undo_41 : decode cX10_undo 41 = .ok (.iaload, 1) := by decide +kernel
theorem dX10_undo_42 : decode cX10_undo 42 = .ok (.iastore, 1) := by decide +kernel
theorem dX10_undo_43 : decode cX10_undo 43 = .ok (.aload_n 0, 1) := by decide +kernel
theorem dX10_undo_44 : decode cX10_undo 44 = .ok (.getfield 135, 3) := by decide +kernel
theorem dX10_undo_47 : decode cX10_undo 47 = .ok (.ireturn, 1) := by decide +kernel
theorem dX10_redo_0 : decode cX10_redo 0 = .ok (.aload_n 0, 1) := by decide +kernel
theorem dX10_redo_1 : decode cX10_redo 1 = .ok (.getfield 135, 3) := by decide +kernel
theorem dX10_redo_4 : decode cX10_redo 4 = .ok (.aload_n 0, 1) := by decide +kernel
theorem dX10_redo_5 : decode cX10_redo 5 = .ok (.getfield 138, 3) := by decide +kernel
theorem dX10_redo_8 : decode cX10_redo 8 = .ok (.if_icmp .ne 6, 3) := by decide +kernel
theorem dX10_redo_11 : decode cX10_redo 11 = .ok (.bipush (-5), 2) := by decide +kernel
theorem dX10_redo_13 : decode cX10_redo 13 = .ok (.ireturn, 1) := by decide +kernel
theorem dX10_redo_14 : decode cX10_redo 14 = .ok (.aload_n 0, 1) := by decide +kernel
theorem dX10_redo_15 : decode cX10_redo 15 = .ok (.getfield 7, 3) := by decide +kernel
theorem dX10_redo_18 : decode cX10_redo 18 = .ok (.aload_n 0, 1) := by decide +kernel
theorem dX10_redo_19 : decode cX10_redo 19 = .ok (.getfield 16, 3) := by decide +kernel
theorem dX10_redo_22 : decode cX10_redo 22 = .ok (.aload_n 0, 1) := by decide +kernel
theorem dX10_redo_23 : decode cX10_redo 23 = .ok (.getfield 135, 3) := by decide +kernel
theorem dX10_redo_26 : decode cX10_redo 26 = .ok (.iaload, 1) := by decide +kernel
theorem dX10_redo_27 : decode cX10_redo 27 = .ok (.aload_n 0, 1) := by decide +kernel
theorem dX10_redo_28 : decode cX10_redo 28 = .ok (.getfield 22, 3) := by decide +kernel
theorem dX10_redo_31 : decode cX10_redo 31 = .ok (.aload_n 0, 1) := by decide +kernel
theorem dX10_redo_32 : decode cX10_redo 32 = .ok (.getfield 135, 3) := by decide +kernel
theorem dX10_redo_35 : decode cX10_redo 35 = .ok (.iaload, 1) := by decide +kernel
theorem dX10_redo_36 : decode cX10_redo 36 = .ok (.iastore, 1) := by decide +kernel
theorem dX10_redo_37 : decode cX10_redo 37 = .ok (.aload_n 0, 1) := by decide +kernel
theorem dX10_redo_38 : decode cX10_redo 38 = .ok (.dup, 1) := by decide +kernel
theorem dX10_redo_39 : decode cX10_redo 39 = .ok (.getfield 135, 3) := by decide +kernel
theorem dX10_redo_42 : decode cX10_redo 42 = .ok (.iconst 1, 1) := by decide +kernel
theorem dX10_redo_43 : decode cX10_redo 43 = .ok (.iadd, 1) := by decide +kernel
theorem dX10_redo_44 : decode cX10_redo 44 = .ok (.putfield 135, 3) := by decide +kernel
theorem dX10_redo_47 : decode cX10_redo 47 = .ok (.aload_n 0, 1) := by decide +kernel
theorem dX10_redo_48 : decode cX10_redo 48 = .ok (.getfield 138, 3) := by decide +kernel
theorem dX10_redo_51 : decode cX10_redo 51 = .ok (.aload_n 0, 1) := by decide +kernel
theorem dX10_redo_52 : decode cX10_redo 52 = .ok (.getfield 135, 3) := by decide +kernel
theorem dX10_redo_55 : decode cX10_redo 55 = .ok (.isub, 1) := by decide +kernel
theorem dX10_redo_56 : decode cX10_redo 56 = .ok (.ireturn, 1) := by decide +kernel
theorem dX10_feed_0 : decode cX10_feed 0 = .ok (.iload_n 1, 1) := by decide +kernel
theorem dX10_feed_1 : decode cX10_feed 1 = .ok (.iconst 0, 1) := by decide +kernel
theorem dX10_feed_2 : decode cX10_feed 2 = .ok (.sipush 255, 3) := by decide +kernel
theorem dX10_feed_5 : decode cX10_feed 5 = .ok (.invokestatic 106, 3) := by decide +kernel
theorem dX10_feed_8 : decode cX10_feed 8 = .ok (.ifCond .ne 5, 3) := by decide +kernel
theorem dX10_feed_11 : decode cX10_feed 11 = .ok (.iconst (-1), 1) := by decide +kernel
theorem dX10_feed_12 : decode cX10_feed 12 = .ok (.ireturn, 1) := by decide +kernel
theorem dX10_feed_13 : decode cX10_feed 13 = .ok (.aload_n 0, 1) := by decide +kernel
theorem dX10_feed_14 : decode cX10_feed 14 = .ok (.getfield 141, 3) := by decide +kernel
theorem dX10_feed_17 : decode cX10_feed 17 = .ok (.bipush 120, 2) := by decide +kernel
theorem dX10_feed_19 : decode cX10_feed 19 = .ok (.if_icmp .ne 6, 3) := by decide +kernel
theorem dX10_feed_22 : decode cX10_feed 22 = .ok (.bipush (-3), 2) := by decide +kernel
theorem dX10_feed_24 : decode cX10_feed 24 = .ok (.ireturn, 1) := by decide +kernel
theorem dX10_feed_25 : decode cX10_feed 25 = .ok (.aload_n 0, 1) := by decide +kernel
theorem dX10_feed_26 : decode cX10_feed 26 = .ok (.getfield 31, 3) := by decide +kernel
theorem dX10_feed_29 : decode cX10_feed 29 = .ok (.aload_n 0, 1) := by decide +kernel
theorem dX10_feed_30 : decode cX10_feed 30 = .ok (.getfield 141, 3) := by decide +kernel
theorem dX10_feed_33 : decode cX10_feed 33 = .ok (.iload_n 1, 1) := by decide +kernel
theorem dX10_feed_34 : decode cX10_feed 34 = .ok (.iastore, 1) := by decide +kernel
theorem dX10_feed_35 : decode cX10_feed 35 = .ok (.aload_n 0, 1) := by decide +kernel
theorem dX10_feed_36 : decode cX10_feed 36 = .ok (.dup, 1) := by decide +kernel
theorem dX10_feed_37 : decode cX10_feed 37 = .ok (.getfield 141, 3) := by decide +kernel
theorem dX10_feed_40 : decode cX10_feed 40 = .ok (.iconst 1, 1) := by decide +kernel
theorem dX10_feed_41 : decode cX10_feed 41 = .ok (.iadd, 1) := by decide +kernel
theorem dX10_feed_42 : decode cX10_feed 42 = .ok (.putfield 141, 3) := by decide +kernel
theorem dX10_feed_45 : decode cX10_feed 45 = .ok (.aload_n 0, 1) := by decide +kernel
theorem dX10_feed_46 : decode cX10_feed 46 = .ok (.getfield 141, 3) := by decide +kernel
theorem dX10_feed_49 : decode cX10_feed 49 = .ok (.ireturn, 1) := by decide +kernel
theorem dX10_isAt_0 : decode cX10_isAt 0 = .ok (.aload_n 0, 1) := by decide +kernel
theorem dX10_isAt_1 : decode cX10_isAt 1 = .ok (.getfield 144, 3) := by decide +kernel
theorem dX10_isAt_4 : decode cX10_isAt 4 = .ok (.ifCond .eq 31, 3) := by decide +kernel
theorem dX10_isAt_7 : decode cX10_isAt 7 = .ok (.aload_n 0, 1) := by decide +kernel
theorem dX10_isAt_8 : decode cX10_isAt 8 = .ok (.getfield 148, 3) := by decide +kernel
theorem dX10_isAt_11 : decode cX10_isAt 11 = .ok (.aload_n 0, 1) := by decide +kernel
theorem dX10_isAt_12 : decode cX10_isAt 12 = .ok (.getfield 151, 3) := by decide +kernel
theorem dX10_isAt_15 : decode cX10_isAt 15 = .ok (.if_icmp .ge 20, 3) := by decide +kernel
theorem dX10_isAt_18 : decode cX10_isAt 18 = .ok (.aload_n 0, 1) := by decide +kernel
theorem dX10_isAt_19 : decode cX10_isAt 19 = .ok (.getfield 37, 3) := by decide +kernel
theorem dX10_isAt_22 : decode cX10_isAt 22 = .ok (.aload_n 0, 1) := by decide +kernel
theorem dX10_isAt_23 : decode cX10_isAt 23 = .ok (.getfield 148, 3) := by decide +kernel
theorem dX10_isAt_26 : decode cX10_isAt 26 = .ok (.iaload, 1) := by decide +kernel
theorem dX10_isAt_27 : decode cX10_isAt 27 = .ok (.iload_n 1, 1) := by decide +kernel
theorem dX10_isAt_28 : decode cX10_isAt 28 = .ok (.if_icmp .ne 7, 3) := by decide +kernel
theorem dX10_isAt_31 : decode cX10_isAt 31 = .ok (.iconst 1, 1) := by decide +kernel
theorem dX10_isAt_32 : decode cX10_isAt 32 = .ok (.goto 4, 3) := by decide +kernel
theorem dX10_isAt_35 : decode cX10_isAt 35 = .ok (.iconst 0, 1) := by decide +kernel
theorem dX10_isAt_36 : decode cX10_isAt 36 = .ok (.ireturn, 1) := by decide +kernel
theorem dX10_isDigit_0 : decode cX10_isDigit 0 = .ok (.aload_n 0, 1) := by decide +kernel
theorem dX10_isDigit_1 : decode cX10_isDigit 1 = .ok (.getfield 144, 3) := by decide +kernel
theorem dX10_isDigit_4 : decode cX10_isDigit 4 = .ok (.ifCond .eq 37, 3) := by decide +kernel
theorem dX10_isDigit_7 : decode cX10_isDigit 7 = .ok (.aload_n 0, 1) := by decide +kernel
theorem dX10_isDigit_8 : decode cX10_isDigit 8 = .ok (.getfield 148, 3) := by decide +kernel
theorem dX10_isDigit_11 : decode cX10_isDigit 11 = .ok (.aload_n 0, 1) := by decide +kernel
theorem dX10_isDigit_12 : decode cX10_isDigit 12 = .ok (.getfield 151, 3) := by decide +kernel
theorem dX10_isDigit_15 : decode cX10_isDigit 15 = .ok (.if_icmp .ge 26, 3) := by decide +kernel
theorem dX10_isDigit_18 : decode cX10_isDigit 18 = .ok (.aload_n 0, 1) := by decide +kernel
theorem dX10_isDigit_19 : decode cX10_isDigit 19 = .ok (.getfield 37, 3) := by decide +kernel
theorem dX10_isDigit_22 : decode cX10_isDigit 22 = .ok (.aload_n 0, 1) := by decide +kernel
theorem dX10_isDigit_23 : decode cX10_isDigit 23 = .ok (.getfield 148, 3) := by decide +kernel
theorem dX10_isDigit_26 : decode cX10_isDigit 26 = .ok (.iaload, 1) := by decide +kernel
theorem dX10_isDigit_27 : decode cX10_isDigit 27 = .ok (.bipush 48, 2) := by decide +kernel
theorem dX10_isDigit_29 : decode cX10_isDigit 29 = .ok (.bipush 57, 2) := by decide +kernel
theorem dX10_isDigit_31 : decode cX10_isDigit 31 = .ok (.invokestatic 106, 3) := by decide +kernel
theorem dX10_isDigit_34 : decode cX10_isDigit 34 = .ok (.ifCond .eq 7, 3) := by decide +kernel
theorem dX10_isDigit_37 : decode cX10_isDigit 37 = .ok (.iconst 1, 1) := by decide +kernel
theorem dX10_isDigit_38 : decode cX10_isDigit 38 = .ok (.goto 4, 3) := by decide +kernel
theorem dX10_isDigit_41 : decode cX10_isDigit 41 = .ok (.iconst 0, 1) := by decide +kernel
theorem dX10_isDigit_42 : decode cX10_isDigit 42 = .ok (.ireturn, 1) := by decide +kernel
theorem dX10_number__0 : decode cX10_number_ 0 = .ok (.iconst 0, 1) := by decide +kernel
theorem dX10_number__1 : decode cX10_number_ 1 = .ok (.istore_n 1, 1) := by decide +kernel
theorem dX10_number__2 : decode cX10_number_ 2 = .ok (.iconst 0, 1) := by decide +kernel
theorem dX10_number__3 : decode cX10_number_ 3 = .ok (.istore_n 2, 1) := by decide +kernel
theorem dX10_number__4 : decode cX10_number_ 4 = .ok (.iload_n 2, 1) := by decide +kernel
theorem dX10_number__5 : decode cX10_number_ 5 = .ok (.iconst 4, 1) := by decide +kernel
theorem dX10_number__6 : decode cX10_number_ 6 = .ok (.if_icmp .ge 44, 3) := by decide +kernel
theorem dX10_number__9 : decode cX10_number_ 9 = .ok (.aload_n 0, 1) := by decide +kernel
theorem dX10_number__10 : decode cX10_number_ 10 = .ok (.invokevirtual 154, 3) := by decide +kernel
theorem dX10_number__13 : decode cX10_number_ 13 = .ok (.ifCond .eq 37, 3) := by decide +kernel
theorem dX10_number__16 : decode cX10_number_ 16 = .ok (.bipush 10, 2) := by decide +kernel
theorem dX10_number__18 : decode cX10_number_ 18 = .ok (.iload_n 1, 1) := by decide +kernel
theorem dX10_number__19 : decode cX10_number_ 19 = .ok (.imul, 1) := by decide +kernel
theorem dX10_number__20 : decode cX10_number_ 20 = .ok (.aload_n 0, 1) := by decide +kernel
theorem dX10_number__21 : decode cX10_number_ 21 = .ok (.getfield 37, 3) := by decide +kernel
theorem dX10_number__24 : decode cX10_number_ 24 = .ok (.aload_n 0, 1) := by decide +kernel
theorem dX10_number__25 : decode cX10_number_ 25 = .ok (.getfield 148, 3) := by decide +kernel
theorem dX10_number__28 : decode cX10_number_ 28 = .ok (.iaload, 1) := by decide +kernel
theorem dX10_number__29 : decode cX10_number_ 29 = .ok (.iadd, 1) := by decide +kernel
theorem dX10_number__30 : decode cX10_number_ 30 = .ok (.bipush 48, 2) := by decide +kernel
theorem dX10_number__32 : decode cX10_number_ 32 = .ok (.isub, 1) := by decide +kernel
theorem dX10_number__33 : decode cX10_number_ 33 = .ok (.istore_n 1, 1) := by decide +kernel
theorem dX10_number__34 : decode cX10_number_ 34 = .ok (.aload_n 0, 1) := by decide +kernel
theorem dX10_number__35 : decode cX10_number_ 35 = .ok (.dup, 1) := by decide +kernel
theorem dX10_number__36 : decode cX10_number_ 36 = .ok (.getfield 148, 3) := by decide +kernel
theorem dX10_number__39 : decode cX10_number_ 39 = .ok (.iconst 1, 1) := by decide +kernel
theorem dX10_number__40 : decode cX10_number_ 40 = .ok (.iadd, 1) := by decide +kernel
theorem dX10_number__41 : decode cX10_number_ 41 = .ok (.putfield 148, 3) := by decide +kernel
theorem dX10_number__44 : decode cX10_number_ 44 = .ok (.iinc 2 1, 3) := by decide +kernel
theorem dX10_number__47 : decode cX10_number_ 47 = .ok (.goto (-43), 3) := by decide +kernel
theorem dX10_number__50 : decode cX10_number_ 50 = .ok (.iload_n 1, 1) := by decide +kernel
theorem dX10_number__51 : decode cX10_number_ 51 = .ok (.ireturn, 1) := by decide +kernel
theorem dX10_opens_0 : decode cX10_opens 0 = .ok (.aload_n 0, 1) := by decide +kernel
theorem dX10_opens_1 : decode cX10_opens 1 = .ok (.aload_n 0, 1) := by decide +kernel
theorem dX10_opens_2 : decode cX10_opens 2 = .ok (.getfield 158, 3) := by decide +kernel
theorem dX10_opens_5 : decode cX10_opens 5 = .ok (.bipush 6, 2) := by decide +kernel
theorem dX10_opens_7 : decode cX10_opens 7 = .ok (.if_icmp .ge 7, 3) := by decide +kernel
theorem dX10_opens_10 : decode cX10_opens 10 = .ok (.iconst 1, 1) := by decide +kernel
theorem dX10_opens_11 : decode cX10_opens 11 = .ok (.goto 4, 3) := by decide +kernel
theorem dX10_opens_14 : decode cX10_opens 14 = .ok (.iconst 0, 1) := by decide +kernel
theorem dX10_opens_15 : decode cX10_opens 15 = .ok (.putfield 144, 3) := by decide +kernel
theorem dX10_opens_18 : decode cX10_opens 18 = .ok (.aload_n 0, 1) := by decide +kernel
theorem dX10_opens_19 : decode cX10_opens 19 = .ok (.getfield 144, 3) := by decide +kernel
theorem dX10_opens_22 : decode cX10_opens 22 = .ok (.ifCond .eq 23, 3) := by decide +kernel
theorem dX10_opens_25 : decode cX10_opens 25 = .ok (.aload_n 0, 1) := by decide +kernel
theorem dX10_opens_26 : decode cX10_opens 26 = .ok (.dup, 1) := by decide +kernel
theorem dX10_opens_27 : decode cX10_opens 27 = .ok (.getfield 158, 3) := by decide +kernel
theorem dX10_opens_30 : decode cX10_opens 30 = .ok (.iconst 1, 1) := by decide +kernel
theorem dX10_opens_31 : decode cX10_opens 31 = .ok (.iadd, 1) := by decide +kernel
theorem dX10_opens_32 : decode cX10_opens 32 = .ok (.putfield 158, 3) := by decide +kernel
theorem dX10_opens_35 : decode cX10_opens 35 = .ok (.aload_n 0, 1) := by decide +kernel
theorem dX10_opens_36 : decode cX10_opens 36 = .ok (.dup, 1) := by decide +kernel
theorem dX10_opens_37 : decode cX10_opens 37 = .ok (.getfield 148, 3) := by decide +kernel
theorem dX10_opens_40 : decode cX10_opens 40 = .ok (.iconst 1, 1) := by decide +kernel
theorem dX10_opens_41 : decode cX10_opens 41 = .ok (.iadd, 1) := by decide +kernel
theorem dX10_opens_42 : decode cX10_opens 42 = .ok (.putfield 148, 3) := by decide +kernel
theorem dX10_opens_45 : decode cX10_opens 45 = .ok (.aload_n 0, 1) := by decide +kernel
theorem dX10_opens_46 : decode cX10_opens 46 = .ok (.getfield 144, 3) := by decide +kernel
theorem dX10_opens_49 : decode cX10_opens 49 = .ok (.ireturn, 1) := by decide +kernel
theorem dX10_one_0 : decode cX10_one 0 = .ok (.iconst 0, 1) := by decide +kernel
theorem dX10_one_1 : decode cX10_one 1 = .ok (.istore_n 1, 1) := by decide +kernel
theorem dX10_one_2 : decode cX10_one 2 = .ok (.aload_n 0, 1) := by decide +kernel
theorem dX10_one_3 : decode cX10_one 3 = .ok (.invokevirtual 154, 3) := by decide +kernel
theorem dX10_one_6 : decode cX10_one 6 = .ok (.ifCond .eq 8, 3) := by decide +kernel
theorem dX10_one_9 : decode cX10_one 9 = .ok (.aload_n 0, 1) := by decide +kernel
theorem dX10_one_10 : decode cX10_one 10 = .ok (.invokevirtual 161, 3) := by decide +kernel
theorem dX10_one_13 : decode cX10_one 13 = .ok (.ireturn, 1) := by decide +kernel
theorem dX10_one_14 : decode cX10_one 14 = .ok (.aload_n 0, 1) := by decide +kernel
theorem dX10_one_15 : decode cX10_one 15 = .ok (.bipush 33, 2) := by decide +kernel
theorem dX10_one_17 : decode cX10_one 17 = .ok (.invokevirtual 164, 3) := by decide +kernel
theorem dX10_one_20 : decode cX10_one 20 = .ok (.ifCond .ne 12, 3) := by decide +kernel
theorem dX10_one_23 : decode cX10_one 23 = .ok (.aload_n 0, 1) := by decide +kernel
theorem dX10_one_24 : decode cX10_one 24 = .ok (.bipush 45, 2) := by decide +kernel
theorem dX10_one_26 : decode cX10_one 26 = .ok (.invokevirtual 164, 3) := by decide +kernel
theorem dX10_one_29 : decode cX10_one 29 = .ok (.ifCond .eq 53, 3) := by decide +kernel
theorem dX10_one_32 : decode cX10_one 32 = .ok (.aload_n 0, 1) := by decide +kernel
theorem dX10_one_33 : decode cX10_one 33 = .ok (.bipush 33, 2) := by decide +kernel
theorem dX10_one_35 : decode cX10_one 35 = .ok (.invokevirtual 164, 3) := by decide +kernel
theorem dX10_one_38 : decode cX10_one 38 = .ok (.istore_n 2, 1) := by decide +kernel
theorem dX10_one_39 : decode cX10_one 39 = .ok (.aload_n 0, 1) := by decide +kernel
theorem dX10_one_40 : decode cX10_one 40 = .ok (.invokevirtual 167, 3) := by decide +kernel
theorem dX10_one_43 : decode cX10_one 43 = .ok (.ifCond .eq 37, 3) := by decide +kernel
theorem dX10_one_46 : decode cX10_one 46 = .ok (.aload_n 0, 1) := by decide +kernel
theorem dX10_one_47 : decode cX10_one 47 = .ok (.invokevirtual 170, 3) := by decide +kernel
theorem dX10_one_50 : decode cX10_one 50 = .ok (.istore_n 3, 1) := by decide +kernel
theorem dX10_one_51 : decode cX10_one 51 = .ok (.iload_n 2, 1) := by decide +kernel
theorem dX10_one_52 : decode cX10_one 52 = .ok (.ifCond .eq 15, 3) := by decide +kernel
theorem dX10_one_55 : decode cX10_one 55 = .ok (.iload_n 3, 1) := by decide +kernel
theorem dX10_one_56 : decode cX10_one 56 = .ok (.ifCond .ne 7, 3) := by decide +kernel
theorem dX10_one_59 : decode cX10_one 59 = .ok (.iconst 1, 1) := by decide +kernel
theorem dX10_one_60 : decode cX10_one 60 = .ok (.goto 9, 3) := by decide +kernel
theorem dX10_one_63 : decode cX10_one 63 = .ok (.iconst 0, 1) := by decide +kernel
theorem dX10_one_64 : decode cX10_one 64 = .ok (.goto 5, 3) := by decide +kernel
theorem dX10_one_67 : decode cX10_one 67 = .ok (.iload_n 3, 1) := by decide +kernel
theorem dX10_one_68 : decode cX10_one 68 = .ok (.ineg, 1) := by decide +kernel
theorem dX10_one_69 : decode cX10_one 69 = .ok (.istore_n 1, 1) := by decide +kernel
theorem dX10_one_70 : decode cX10_one 70 = .ok (.aload_n 0, 1) := by decide +kernel
theorem dX10_one_71 : decode cX10_one 71 = .ok (.dup, 1) := by decide +kernel
theorem dX10_one_72 : decode cX10_one 72 = .ok (.getfield 158, 3) := by decide +kernel
theorem dX10_one_75 : decode cX10_one 75 = .ok (.iconst 1, 1) := by decide +kernel
theorem dX10_one_76 : decode cX10_one 76 = .ok (.isub, 1) := by decide +kernel
theorem dX10_one_77 : decode cX10_one 77 = .ok (.putfield 158, 3) := by decide +kernel
theorem dX10_one_80 : decode cX10_one 80 = .ok (.iload_n 1, 1) := by decide +kernel
theorem dX10_one_81 : decode cX10_one 81 = .ok (.ireturn, 1) := by decide +kernel
theorem dX10_one_82 : decode cX10_one 82 = .ok (.aload_n 0, 1) := by decide +kernel
theorem dX10_one_83 : decode cX10_one 83 = .ok (.bipush 40, 2) := by decide +kernel
theorem dX10_one_85 : decode cX10_one 85 = .ok (.invokevirtual 164, 3) := by decide +kernel
theorem dX10_one_88 : decode cX10_one 88 = .ok (.ifCond .eq 58, 3) := by decide +kernel
theorem dX10_one_91 : decode cX10_one 91 = .ok (.aload_n 0, 1) := by decide +kernel
theorem dX10_one_92 : decode cX10_one 92 = .ok (.invokevirtual 167, 3) := by decide +kernel
theorem dX10_one_95 : decode cX10_one 95 = .ok (.ifCond .eq 49, 3) := by decide +kernel
theorem dX10_one_98 : decode cX10_one 98 = .ok (.aload_n 0, 1) := by decide +kernel
theorem dX10_one_99 : decode cX10_one 99 = .ok (.invokevirtual 173, 3) := by decide +kernel
theorem dX10_one_102 : decode cX10_one 102 = .ok (.istore_n 1, 1) := by decide +kernel
theorem dX10_one_103 : decode cX10_one 103 = .ok (.aload_n 0, 1) := by decide +kernel
theorem dX10_one_104 : decode cX10_one 104 = .ok (.aload_n 0, 1) := by decide +kernel
theorem dX10_one_105 : decode cX10_one 105 = .ok (.bipush 41, 2) := by decide +kernel
theorem dX10_one_107 : decode cX10_one 107 = .ok (.invokevirtual 164, 3) := by decide +kernel
theorem dX10_one_110 : decode cX10_one 110 = .ok (.putfield 144, 3) := by decide +kernel
theorem dX10_one_113 : decode cX10_one 113 = .ok (.aload_n 0, 1) := by decide +kernel
theorem dX10_one_114 : decode cX10_one 114 = .ok (.dup, 1) := by decide +kernel
theorem dX10_one_115 : decode cX10_one 115 = .ok (.getfield 148, 3) := by decide +kernel
theorem dX10_one_118 : decode cX10_one 118 = .ok (.aload_n 0, 1) := by decide +kernel
theorem dX10_one_119 : decode cX10_one 119 = .ok (.getfield 144, 3) := by decide +kernel
theorem dX10_one_122 : decode cX10_one 122 = .ok (.ifCond .eq 7, 3) := by decide +kernel
theorem dX10_one_125 : decode cX10_one 125 = .ok (.iconst 1, 1) := by decide +kernel
theorem dX10_one_126 : decode cX10_one 126 = .ok (.goto 4, 3) := by decide +kernel
theorem dX10_one_129 : decode cX10_one 129 = .ok (.iconst 0, 1) := by decide +kernel
theorem dX10_one_130 : decode cX10_one 130 = .ok (.iadd, 1) := by decide +kernel
theorem dX10_one_131 : decode cX10_one 131 = .ok (.putfield 148, 3) := by decide +kernel
theorem dX10_one_134 : decode cX10_one 134 = .ok (.aload_n 0, 1) := by decide +kernel
theorem dX10_one_135 : decode cX10_one 135 = .ok (.dup, 1) := by decide +kernel
theorem dX10_one_136 : decode cX10_one 136 = .ok (.getfield 158, 3) := by decide +kernel
theorem dX10_one_139 : decode cX10_one 139 = .ok (.iconst 1, 1) := by decide +kernel
theorem dX10_one_140 : decode cX10_one 140 = .ok (.isub, 1) := by decide +kernel
theorem dX10_one_141 : decode cX10_one 141 = .ok (.putfield 158, 3) := by decide +kernel
theorem dX10_one_144 : decode cX10_one 144 = .ok (.iload_n 1, 1) := by decide +kernel
theorem dX10_one_145 : decode cX10_one 145 = .ok (.ireturn, 1) := by decide +kernel
theorem dX10_one_146 : decode cX10_one 146 = .ok (.iconst 0, 1) := by decide +kernel
theorem dX10_one_147 : decode cX10_one 147 = .ok (.istore_n 2, 1) := by decide +kernel
theorem dX10_one_148 : decode cX10_one 148 = .ok (.iload_n 2, 1) := by decide +kernel
theorem dX10_one_149 : decode cX10_one 149 = .ok (.bipush 6, 2) := by decide +kernel
theorem dX10_one_151 : decode cX10_one 151 = .ok (.if_icmp .ge 39, 3) := by decide +kernel
theorem dX10_one_154 : decode cX10_one 154 = .ok (.aload_n 0, 1) := by decide +kernel
theorem dX10_one_155 : decode cX10_one 155 = .ok (.aload_n 0, 1) := by decide +kernel
theorem dX10_one_156 : decode cX10_one 156 = .ok (.getfield 43, 3) := by decide +kernel
theorem dX10_one_159 : decode cX10_one 159 = .ok (.iload_n 2, 1) := by decide +kernel
theorem dX10_one_160 : decode cX10_one 160 = .ok (.caload, 1) := by decide +kernel
theorem dX10_one_161 : decode cX10_one 161 = .ok (.invokevirtual 164, 3) := by decide +kernel
theorem dX10_one_164 : decode cX10_one 164 = .ok (.ifCond .eq 20, 3) := by decide +kernel
theorem dX10_one_167 : decode cX10_one 167 = .ok (.aload_n 0, 1) := by decide +kernel
theorem dX10_one_168 : decode cX10_one 168 = .ok (.dup, 1) := by decide +kernel
theorem dX10_one_169 : decode cX10_one 169 = .ok (.getfield 148, 3) := by decide +kernel
theorem dX10_one_172 : decode cX10_one 172 = .ok (.iconst 1, 1) := by decide +kernel
theorem dX10_one_173 : decode cX10_one 173 = .ok (.iadd, 1) := by decide +kernel
theorem dX10_one_174 : decode cX10_one 174 = .ok (.putfield 148, 3) := by decide +kernel
theorem dX10_one_177 : decode cX10_one 177 = .ok (.aload_n 0, 1) := by decide +kernel
theorem dX10_one_178 : decode cX10_one 178 = .ok (.getfield 40, 3) := by decide +kernel
theorem dX10_one_181 : decode cX10_one 181 = .ok (.iload_n 2, 1) := by decide +kernel
theorem dX10_one_182 : decode cX10_one 182 = .ok (.iaload, 1) := by decide +kernel
theorem dX10_one_183 : decode cX10_one 183 = .ok (.ireturn, 1) := by decide +kernel
theorem dX10_one_184 : decode cX10_one 184 = .ok (.iinc 2 1, 3) := by decide +kernel
theorem dX10_one_187 : decode cX10_one 187 = .ok (.goto (-39), 3) := by decide +kernel
theorem dX10_one_190 : decode cX10_one 190 = .ok (.aload_n 0, 1) := by decide +kernel
theorem dX10_one_191 : decode cX10_one 191 = .ok (.iconst 0, 1) := by decide +kernel
theorem dX10_one_192 : decode cX10_one 192 = .ok (.putfield 144, 3) := by decide +kernel
theorem dX10_one_195 : decode cX10_one 195 = .ok (.iconst 0, 1) := by decide +kernel
theorem dX10_one_196 : decode cX10_one 196 = .ok (.ireturn, 1) := by decide +kernel
theorem dX10_product_0 : decode cX10_product 0 = .ok (.aload_n 0, 1) := by decide +kernel
theorem dX10_product_1 : decode cX10_product 1 = .ok (.invokevirtual 170, 3) := by decide +kernel
theorem dX10_product_4 : decode cX10_product 4 = .ok (.istore_n 1, 1) := by decide +kernel
theorem dX10_product_5 : decode cX10_product 5 = .ok (.aload_n 0, 1) := by decide +kernel
theorem dX10_product_6 : decode cX10_product 6 = .ok (.bipush 42, 2) := by decide +kernel
theorem dX10_product_8 : decode cX10_product 8 = .ok (.invokevirtual 164, 3) := by decide +kernel
theorem dX10_product_11 : decode cX10_product 11 = .ok (.ifCond .ne 21, 3) := by decide +kernel
theorem dX10_product_14 : decode cX10_product 14 = .ok (.aload_n 0, 1) := by decide +kernel
theorem dX10_product_15 : decode cX10_product 15 = .ok (.bipush 47, 2) := by decide +kernel
theorem dX10_product_17 : decode cX10_product 17 = .ok (.invokevirtual 164, 3) := by decide +kernel
theorem dX10_product_20 : decode cX10_product 20 = .ok (.ifCond .ne 12, 3) := by decide +kernel
theorem dX10_product_23 : decode cX10_product 23 = .ok (.aload_n 0, 1) := by decide +kernel
theorem dX10_product_24 : decode cX10_product 24 = .ok (.bipush 37, 2) := by decide +kernel
theorem dX10_product_26 : decode cX10_product 26 = .ok (.invokevirtual 164, 3) := by decide +kernel
theorem dX10_product_29 : decode cX10_product 29 = .ok (.ifCond .eq 67, 3) := by decide +kernel
theorem dX10_product_32 : decode cX10_product 32 = .ok (.aload_n 0, 1) := by decide +kernel
theorem dX10_product_33 : decode cX10_product 33 = .ok (.getfield 37, 3) := by decide +kernel
theorem dX10_product_36 : decode cX10_product 36 = .ok (.aload_n 0, 1) := by decide +kernel
theorem dX10_product_37 : decode cX10_product 37 = .ok (.getfield 148, 3) := by decide +kernel
theorem dX10_product_40 : decode cX10_product 40 = .ok (.iaload, 1) := by decide +kernel
theorem dX10_product_41 : decode cX10_product 41 = .ok (.istore_n 2, 1) := by decide +kernel
theorem dX10_product_42 : decode cX10_product 42 = .ok (.aload_n 0, 1) := by decide +kernel
theorem dX10_product_43 : decode cX10_product 43 = .ok (.dup, 1) := by decide +kernel
theorem dX10_product_44 : decode cX10_product 44 = .ok (.getfield 148, 3) := by decide +kernel
theorem dX10_product_47 : decode cX10_product 47 = .ok (.iconst 1, 1) := by decide +kernel
theorem dX10_product_48 : decode cX10_product 48 = .ok (.iadd, 1) := by decide +kernel
theorem dX10_product_49 : decode cX10_product 49 = .ok (.putfield 148, 3) := by decide +kernel
theorem dX10_product_52 : decode cX10_product 52 = .ok (.aload_n 0, 1) := by decide +kernel
theorem dX10_product_53 : decode cX10_product 53 = .ok (.invokevirtual 170, 3) := by decide +kernel
theorem dX10_product_56 : decode cX10_product 56 = .ok (.istore_n 3, 1) := by decide +kernel
theorem dX10_product_57 : decode cX10_product 57 = .ok (.iload_n 2, 1) := by decide +kernel
theorem dX10_product_58 : decode cX10_product 58 = .ok (.bipush 42, 2) := by decide +kernel
theorem dX10_product_60 : decode cX10_product 60 = .ok (.if_icmp .ne 9, 3) := by decide +kernel
theorem dX10_product_63 : decode cX10_product 63 = .ok (.iload_n 1, 1) := by decide +kernel
theorem dX10_product_64 : decode cX10_product 64 = .ok (.iload_n 3, 1) := by decide +kernel
theorem dX10_product_65 : decode cX10_product 65 = .ok (.imul, 1) := by decide +kernel
theorem dX10_product_66 : decode cX10_product 66 = .ok (.goto 26, 3) := by decide +kernel
theorem dX10_product_69 : decode cX10_product 69 = .ok (.iload_n 3, 1) := by decide +kernel
theorem dX10_product_70 : decode cX10_product 70 = .ok (.ifCond .ne 7, 3) := by decide +kernel
theorem dX10_product_73 : decode cX10_product 73 = .ok (.iconst 0, 1) := by decide +kernel
theorem dX10_product_74 : decode cX10_product 74 = .ok (.goto 18, 3) := by decide +kernel
theorem dX10_product_77 : decode cX10_product 77 = .ok (.iload_n 2, 1) := by decide +kernel
theorem dX10_product_78 : decode cX10_product 78 = .ok (.bipush 47, 2) := by decide +kernel
theorem dX10_product_80 : decode cX10_product 80 = .ok (.if_icmp .ne 9, 3) := by decide +kernel
theorem dX10_product_83 : decode cX10_product 83 = .ok (.iload_n 1, 1) := by decide +kernel
theorem dX10_product_84 : decode cX10_product 84 = .ok (.iload_n 3, 1) := by decide +kernel
theorem dX10_product_85 : decode cX10_product 85 = .ok (.idiv, 1) := by decide +kernel
theorem dX10_product_86 : decode cX10_product 86 = .ok (.goto 6, 3) := by decide +kernel
theorem dX10_product_89 : decode cX10_product 89 = .ok (.iload_n 1, 1) := by decide +kernel
theorem dX10_product_90 : decode cX10_product 90 = .ok (.iload_n 3, 1) := by decide +kernel
theorem dX10_product_91 : decode cX10_product 91 = .ok (.irem, 1) := by decide +kernel
theorem dX10_product_92 : decode cX10_product 92 = .ok (.istore_n 1, 1) := by decide +kernel
theorem dX10_product_93 : decode cX10_product 93 = .ok (.goto (-88), 3) := by decide +kernel
theorem dX10_product_96 : decode cX10_product 96 = .ok (.iload_n 1, 1) := by decide +kernel
theorem dX10_product_97 : decode cX10_product 97 = .ok (.ireturn, 1) := by decide +kernel
theorem dX10_total_0 : decode cX10_total 0 = .ok (.aload_n 0, 1) := by decide +kernel
theorem dX10_total_1 : decode cX10_total 1 = .ok (.invokevirtual 176, 3) := by decide +kernel
theorem dX10_total_4 : decode cX10_total 4 = .ok (.istore_n 1, 1) := by decide +kernel
theorem dX10_total_5 : decode cX10_total 5 = .ok (.aload_n 0, 1) := by decide +kernel
theorem dX10_total_6 : decode cX10_total 6 = .ok (.bipush 43, 2) := by decide +kernel
theorem dX10_total_8 : decode cX10_total 8 = .ok (.invokevirtual 164, 3) := by decide +kernel
theorem dX10_total_11 : decode cX10_total 11 = .ok (.ifCond .ne 12, 3) := by decide +kernel
theorem dX10_total_14 : decode cX10_total 14 = .ok (.aload_n 0, 1) := by decide +kernel
theorem dX10_total_15 : decode cX10_total 15 = .ok (.bipush 45, 2) := by decide +kernel
theorem dX10_total_17 : decode cX10_total 17 = .ok (.invokevirtual 164, 3) := by decide +kernel
theorem dX10_total_20 : decode cX10_total 20 = .ok (.ifCond .eq 42, 3) := by decide +kernel
theorem dX10_total_23 : decode cX10_total 23 = .ok (.aload_n 0, 1) := by decide +kernel
theorem dX10_total_24 : decode cX10_total 24 = .ok (.bipush 43, 2) := by decide +kernel
theorem dX10_total_26 : decode cX10_total 26 = .ok (.invokevirtual 164, 3) := by decide +kernel
theorem dX10_total_29 : decode cX10_total 29 = .ok (.istore_n 2, 1) := by decide +kernel
theorem dX10_total_30 : decode cX10_total 30 = .ok (.aload_n 0, 1) := by decide +kernel
theorem dX10_total_31 : decode cX10_total 31 = .ok (.dup, 1) := by decide +kernel
theorem dX10_total_32 : decode cX10_total 32 = .ok (.getfield 148, 3) := by decide +kernel
theorem dX10_total_35 : decode cX10_total 35 = .ok (.iconst 1, 1) := by decide +kernel
theorem dX10_total_36 : decode cX10_total 36 = .ok (.iadd, 1) := by decide +kernel
theorem dX10_total_37 : decode cX10_total 37 = .ok (.putfield 148, 3) := by decide +kernel
theorem dX10_total_40 : decode cX10_total 40 = .ok (.aload_n 0, 1) := by decide +kernel
theorem dX10_total_41 : decode cX10_total 41 = .ok (.invokevirtual 176, 3) := by decide +kernel
theorem dX10_total_44 : decode cX10_total 44 = .ok (.istore_n 3, 1) := by decide +kernel
theorem dX10_total_45 : decode cX10_total 45 = .ok (.iload_n 2, 1) := by decide +kernel
theorem dX10_total_46 : decode cX10_total 46 = .ok (.ifCond .eq 9, 3) := by decide +kernel
theorem dX10_total_49 : decode cX10_total 49 = .ok (.iload_n 1, 1) := by decide +kernel
theorem dX10_total_50 : decode cX10_total 50 = .ok (.iload_n 3, 1) := by decide +kernel
theorem dX10_total_51 : decode cX10_total 51 = .ok (.iadd, 1) := by decide +kernel
theorem dX10_total_52 : decode cX10_total 52 = .ok (.goto 6, 3) := by decide +kernel
theorem dX10_total_55 : decode cX10_total 55 = .ok (.iload_n 1, 1) := by decide +kernel
theorem dX10_total_56 : decode cX10_total 56 = .ok (.iload_n 3, 1) := by decide +kernel
theorem dX10_total_57 : decode cX10_total 57 = .ok (.isub, 1) := by decide +kernel
theorem dX10_total_58 : decode cX10_total 58 = .ok (.istore_n 1, 1) := by decide +kernel
theorem dX10_total_59 : decode cX10_total 59 = .ok (.goto (-54), 3) := by decide +kernel
theorem dX10_total_62 : decode cX10_total 62 = .ok (.iload_n 1, 1) := by decide +kernel
theorem dX10_total_63 : decode cX10_total 63 = .ok (.ireturn, 1) := by decide +kernel
theorem dX10_compared_0 : decode cX10_compared 0 = .ok (.aload_n 0, 1) := by decide +kernel
theorem dX10_compared_1 : decode cX10_compared 1 = .ok (.invokevirtual 179, 3) := by decide +kernel
theorem dX10_compared_4 : decode cX10_compared 4 = .ok (.istore_n 1, 1) := by decide +kernel
theorem dX10_compared_5 : decode cX10_compared 5 = .ok (.aload_n 0, 1) := by decide +kernel
theorem dX10_compared_6 : decode cX10_compared 6 = .ok (.bipush 60, 2) := by decide +kernel
theorem dX10_compared_8 : decode cX10_compared 8 = .ok (.invokevirtual 164, 3) := by decide +kernel
theorem dX10_compared_11 : decode cX10_compared 11 = .ok (.ifCond .ne 21, 3) := by decide +kernel
theorem dX10_compared_14 : decode cX10_compared 14 = .ok (.aload_n 0, 1) := by decide +kernel
theorem dX10_compared_15 : decode cX10_compared 15 = .ok (.bipush 61, 2) := by decide +kernel
theorem dX10_compared_17 : decode cX10_compared 17 = .ok (.invokevirtual 164, 3) := by decide +kernel
theorem dX10_compared_20 : decode cX10_compared 20 = .ok (.ifCond .ne 12, 3) := by decide +kernel
theorem dX10_compared_23 : decode cX10_compared 23 = .ok (.aload_n 0, 1) := by decide +kernel
theorem dX10_compared_24 : decode cX10_compared 24 = .ok (.bipush 62, 2) := by decide +kernel
theorem dX10_compared_26 : decode cX10_compared 26 = .ok (.invokevirtual 164, 3) := by decide +kernel
theorem dX10_compared_29 : decode cX10_compared 29 = .ok (.ifCond .eq 89, 3) := by decide +kernel
theorem dX10_compared_32 : decode cX10_compared 32 = .ok (.aload_n 0, 1) := by decide +kernel
theorem dX10_compared_33 : decode cX10_compared 33 = .ok (.getfield 37, 3) := by decide +kernel
theorem dX10_compared_36 : decode cX10_compared 36 = .ok (.aload_n 0, 1) := by decide +kernel
theorem dX10_compared_37 : decode cX10_compared 37 = .ok (.getfield 148, 3) := by decide +kernel
theorem dX10_compared_40 : decode cX10_compared 40 = .ok (.iaload, 1) := by decide +kernel
theorem dX10_compared_41 : decode cX10_compared 41 = .ok (.istore_n 2, 1) := by decide +kernel
theorem dX10_compared_42 : decode cX10_compared 42 = .ok (.aload_n 0, 1) := by decide +kernel
theorem dX10_compared_43 : decode cX10_compared 43 = .ok (.dup, 1) := by decide +kernel
theorem dX10_compared_44 : decode cX10_compared 44 = .ok (.getfield 148, 3) := by decide +kernel
theorem dX10_compared_47 : decode cX10_compared 47 = .ok (.iconst 1, 1) := by decide +kernel
theorem dX10_compared_48 : decode cX10_compared 48 = .ok (.iadd, 1) := by decide +kernel
theorem dX10_compared_49 : decode cX10_compared 49 = .ok (.putfield 148, 3) := by decide +kernel
theorem dX10_compared_52 : decode cX10_compared 52 = .ok (.aload_n 0, 1) := by decide +kernel
theorem dX10_compared_53 : decode cX10_compared 53 = .ok (.invokevirtual 179, 3) := by decide +kernel
theorem dX10_compared_56 : decode cX10_compared 56 = .ok (.istore_n 3, 1) := by decide +kernel
theorem dX10_compared_57 : decode cX10_compared 57 = .ok (.iload_n 2, 1) := by decide +kernel
theorem dX10_compared_58 : decode cX10_compared 58 = .ok (.bipush 60, 2) := by decide +kernel
theorem dX10_compared_60 : decode cX10_compared 60 = .ok (.if_icmp .ne 16, 3) := by decide +kernel
theorem dX10_compared_63 : decode cX10_compared 63 = .ok (.iload_n 1, 1) := by decide +kernel
theorem dX10_compared_64 : decode cX10_compared 64 = .ok (.iload_n 3, 1) := by decide +kernel
theorem dX10_compared_65 : decode cX10_compared 65 = .ok (.if_icmp .ge 7, 3) := by decide +kernel
theorem dX10_compared_68 : decode cX10_compared 68 = .ok (.iconst 1, 1) := by decide +kernel
theorem dX10_compared_69 : decode cX10_compared 69 = .ok (.goto 36, 3) := by decide +kernel
theorem dX10_compared_72 : decode cX10_compared 72 = .ok (.iconst 0, 1) := by decide +kernel
theorem dX10_compared_73 : decode cX10_compared 73 = .ok (.goto 32, 3) := by decide +kernel
theorem dX10_compared_76 : decode cX10_compared 76 = .ok (.iload_n 2, 1) := by decide +kernel
theorem dX10_compared_77 : decode cX10_compared 77 = .ok (.bipush 61, 2) := by decide +kernel
theorem dX10_compared_79 : decode cX10_compared 79 = .ok (.if_icmp .ne 16, 3) := by decide +kernel
theorem dX10_compared_82 : decode cX10_compared 82 = .ok (.iload_n 1, 1) := by decide +kernel
theorem dX10_compared_83 : decode cX10_compared 83 = .ok (.iload_n 3, 1) := by decide +kernel
theorem dX10_compared_84 : decode cX10_compared 84 = .ok (.if_icmp .ne 7, 3) := by decide +kernel
theorem dX10_compared_87 : decode cX10_compared 87 = .ok (.iconst 1, 1) := by decide +kernel
theorem dX10_compared_88 : decode cX10_compared 88 = .ok (.goto 17, 3) := by decide +kernel
theorem dX10_compared_91 : decode cX10_compared 91 = .ok (.iconst 0, 1) := by decide +kernel
theorem dX10_compared_92 : decode cX10_compared 92 = .ok (.goto 13, 3) := by decide +kernel
theorem dX10_compared_95 : decode cX10_compared 95 = .ok (.iload_n 1, 1) := by decide +kernel
theorem dX10_compared_96 : decode cX10_compared 96 = .ok (.iload_n 3, 1) := by decide +kernel
theorem dX10_compared_97 : decode cX10_compared 97 = .ok (.if_icmp .le 7, 3) := by decide +kernel
theorem dX10_compared_100 : decode cX10_compared 100 = .ok (.iconst 1, 1) := by decide +kernel
theorem dX10_compared_101 : decode cX10_compared 101 = .ok (.goto 4, 3) := by decide +kernel
theorem dX10_compared_104 : decode cX10_compared 104 = .ok (.iconst 0, 1) := by decide +kernel
theorem dX10_compared_105 : decode cX10_compared 105 = .ok (.istore 4, 2) := by decide +kernel
theorem dX10_compared_107 : decode cX10_compared 107 = .ok (.iload 4, 2) := by decide +kernel
theorem dX10_compared_109 : decode cX10_compared 109 = .ok (.ifCond .eq 7, 3) := by decide +kernel
theorem dX10_compared_112 : decode cX10_compared 112 = .ok (.iconst 1, 1) := by decide +kernel
theorem dX10_compared_113 : decode cX10_compared 113 = .ok (.goto 4, 3) := by decide +kernel
theorem dX10_compared_116 : decode cX10_compared 116 = .ok (.iconst 0, 1) := by decide +kernel
theorem dX10_compared_117 : decode cX10_compared 117 = .ok (.istore_n 1, 1) := by decide +kernel
theorem dX10_compared_118 : decode cX10_compared 118 = .ok (.iload_n 1, 1) := by decide +kernel
theorem dX10_compared_119 : decode cX10_compared 119 = .ok (.ireturn, 1) := by decide +kernel
theorem dX10_both_0 : decode cX10_both 0 = .ok (.aload_n 0, 1) := by decide +kernel
theorem dX10_both_1 : decode cX10_both 1 = .ok (.invokevirtual 182, 3) := by decide +kernel
theorem dX10_both_4 : decode cX10_both 4 = .ok (.istore_n 1, 1) := by decide +kernel
theorem dX10_both_5 : decode cX10_both 5 = .ok (.aload_n 0, 1) := by decide +kernel
theorem dX10_both_6 : decode cX10_both 6 = .ok (.bipush 38, 2) := by decide +kernel
theorem dX10_both_8 : decode cX10_both 8 = .ok (.invokevirtual 164, 3) := by decide +kernel
theorem dX10_both_11 : decode cX10_both 11 = .ok (.ifCond .eq 35, 3) := by decide +kernel
theorem dX10_both_14 : decode cX10_both 14 = .ok (.aload_n 0, 1) := by decide +kernel
theorem dX10_both_15 : decode cX10_both 15 = .ok (.dup, 1) := by decide +kernel
theorem dX10_both_16 : decode cX10_both 16 = .ok (.getfield 148, 3) := by decide +kernel
theorem dX10_both_19 : decode cX10_both 19 = .ok (.iconst 1, 1) := by decide +kernel
theorem dX10_both_20 : decode cX10_both 20 = .ok (.iadd, 1) := by decide +kernel
theorem dX10_both_21 : decode cX10_both 21 = .ok (.putfield 148, 3) := by decide +kernel
theorem dX10_both_24 : decode cX10_both 24 = .ok (.aload_n 0, 1) := by decide +kernel
theorem dX10_both_25 : decode cX10_both 25 = .ok (.invokevirtual 182, 3) := by decide +kernel
theorem dX10_both_28 : decode cX10_both 28 = .ok (.istore_n 2, 1) := by decide +kernel
theorem dX10_both_29 : decode cX10_both 29 = .ok (.iload_n 1, 1) := by decide +kernel
theorem dX10_both_30 : decode cX10_both 30 = .ok (.ifCond .eq 11, 3) := by decide +kernel
theorem dX10_both_33 : decode cX10_both 33 = .ok (.iload_n 2, 1) := by decide +kernel
theorem dX10_both_34 : decode cX10_both 34 = .ok (.ifCond .eq 7, 3) := by decide +kernel
theorem dX10_both_37 : decode cX10_both 37 = .ok (.iconst 1, 1) := by decide +kernel
theorem dX10_both_38 : decode cX10_both 38 = .ok (.goto 4, 3) := by decide +kernel
theorem dX10_both_41 : decode cX10_both 41 = .ok (.iconst 0, 1) := by decide +kernel
theorem dX10_both_42 : decode cX10_both 42 = .ok (.istore_n 1, 1) := by decide +kernel
theorem dX10_both_43 : decode cX10_both 43 = .ok (.goto (-38), 3) := by decide +kernel
theorem dX10_both_46 : decode cX10_both 46 = .ok (.iload_n 1, 1) := by decide +kernel
theorem dX10_both_47 : decode cX10_both 47 = .ok (.ireturn, 1) := by decide +kernel
theorem dX10_any_0 : decode cX10_any 0 = .ok (.aload_n 0, 1) := by decide +kernel
theorem dX10_any_1 : decode cX10_any 1 = .ok (.invokevirtual 185, 3) := by decide +kernel
theorem dX10_any_4 : decode cX10_any 4 = .ok (.istore_n 1, 1) := by decide +kernel
theorem dX10_any_5 : decode cX10_any 5 = .ok (.aload_n 0, 1) := by decide +kernel
theorem dX10_any_6 : decode cX10_any 6 = .ok (.bipush 124, 2) := by decide +kernel
theorem dX10_any_8 : decode cX10_any 8 = .ok (.invokevirtual 164, 3) := by decide +kernel
theorem dX10_any_11 : decode cX10_any 11 = .ok (.ifCond .eq 35, 3) := by decide +kernel
theorem dX10_any_14 : decode cX10_any 14 = .ok (.aload_n 0, 1) := by decide +kernel
theorem dX10_any_15 : decode cX10_any 15 = .ok (.dup, 1) := by decide +kernel
theorem dX10_any_16 : decode cX10_any 16 = .ok (.getfield 148, 3) := by decide +kernel
theorem dX10_any_19 : decode cX10_any 19 = .ok (.iconst 1, 1) := by decide +kernel
theorem dX10_any_20 : decode cX10_any 20 = .ok (.iadd, 1) := by decide +kernel
theorem dX10_any_21 : decode cX10_any 21 = .ok (.putfield 148, 3) := by decide +kernel
theorem dX10_any_24 : decode cX10_any 24 = .ok (.aload_n 0, 1) := by decide +kernel
theorem dX10_any_25 : decode cX10_any 25 = .ok (.invokevirtual 185, 3) := by decide +kernel
theorem dX10_any_28 : decode cX10_any 28 = .ok (.istore_n 2, 1) := by decide +kernel
theorem dX10_any_29 : decode cX10_any 29 = .ok (.iload_n 1, 1) := by decide +kernel
theorem dX10_any_30 : decode cX10_any 30 = .ok (.ifCond .ne 7, 3) := by decide +kernel
theorem dX10_any_33 : decode cX10_any 33 = .ok (.iload_n 2, 1) := by decide +kernel
theorem dX10_any_34 : decode cX10_any 34 = .ok (.ifCond .eq 7, 3) := by decide +kernel
theorem dX10_any_37 : decode cX10_any 37 = .ok (.iconst 1, 1) := by decide +kernel
theorem dX10_any_38 : decode cX10_any 38 = .ok (.goto 4, 3) := by decide +kernel
theorem dX10_any_41 : decode cX10_any 41 = .ok (.iconst 0, 1) := by decide +kernel
theorem dX10_any_42 : decode cX10_any 42 = .ok (.istore_n 1, 1) := by decide +kernel
theorem dX10_any_43 : decode cX10_any 43 = .ok (.goto (-38), 3) := by decide +kernel
theorem dX10_any_46 : decode cX10_any 46 = .ok (.iload_n 1, 1) := by decide +kernel
theorem dX10_any_47 : decode cX10_any 47 = .ok (.ireturn, 1) := by decide +kernel
theorem dX10_gives_0 : decode cX10_gives 0 = .ok (.aload_n 0, 1) := by decide +kernel
theorem dX10_gives_1 : decode cX10_gives 1 = .ok (.iconst 0, 1) := by decide +kernel
theorem dX10_gives_2 : decode cX10_gives 2 = .ok (.putfield 148, 3) := by decide +kernel
theorem dX10_gives_5 : decode cX10_gives 5 = .ok (.aload_n 0, 1) := by decide +kernel
theorem dX10_gives_6 : decode cX10_gives 6 = .ok (.iconst 1, 1) := by decide +kernel
theorem dX10_gives_7 : decode cX10_gives 7 = .ok (.putfield 144, 3) := by decide +kernel
theorem dX10_gives_10 : decode cX10_gives 10 = .ok (.aload_n 0, 1) := by decide +kernel
theorem dX10_gives_11 : decode cX10_gives 11 = .ok (.iconst 0, 1) := by decide +kernel
theorem dX10_gives_12 : decode cX10_gives 12 = .ok (.putfield 158, 3) := by decide +kernel
theorem dX10_gives_15 : decode cX10_gives 15 = .ok (.iconst 0, 1) := by decide +kernel
theorem dX10_gives_16 : decode cX10_gives 16 = .ok (.istore_n 1, 1) := by decide +kernel
theorem dX10_gives_17 : decode cX10_gives 17 = .ok (.iconst 0, 1) := by decide +kernel
theorem dX10_gives_18 : decode cX10_gives 18 = .ok (.istore_n 2, 1) := by decide +kernel
theorem dX10_gives_19 : decode cX10_gives 19 = .ok (.iconst 1, 1) := by decide +kernel
theorem dX10_gives_20 : decode cX10_gives 20 = .ok (.istore_n 3, 1) := by decide +kernel
theorem dX10_gives_21 : decode cX10_gives 21 = .ok (.iload_n 3, 1) := by decide +kernel
theorem dX10_gives_22 : decode cX10_gives 22 = .ok (.ifCond .eq 108, 3) := by decide +kernel
theorem dX10_gives_25 : decode cX10_gives 25 = .ok (.aload_n 0, 1) := by decide +kernel
theorem dX10_gives_26 : decode cX10_gives 26 = .ok (.invokevirtual 173, 3) := by decide +kernel
theorem dX10_gives_29 : decode cX10_gives 29 = .ok (.istore 4, 2) := by decide +kernel
theorem dX10_gives_31 : decode cX10_gives 31 = .ok (.iconst 1, 1) := by decide +kernel
theorem dX10_gives_32 : decode cX10_gives 32 = .ok (.istore 5, 2) := by decide +kernel
theorem dX10_gives_34 : decode cX10_gives 34 = .ok (.aload_n 0, 1) := by decide +kernel
theorem dX10_gives_35 : decode cX10_gives 35 = .ok (.bipush 63, 2) := by decide +kernel
theorem dX10_gives_37 : decode cX10_gives 37 = .ok (.invokevirtual 164, 3) := by decide +kernel
theorem dX10_gives_40 : decode cX10_gives 40 = .ok (.ifCond .eq 31, 3) := by decide +kernel
theorem dX10_gives_43 : decode cX10_gives 43 = .ok (.aload_n 0, 1) := by decide +kernel
theorem dX10_gives_44 : decode cX10_gives 44 = .ok (.dup, 1) := by decide +kernel
theorem dX10_gives_45 : decode cX10_gives 45 = .ok (.getfield 148, 3) := by decide +kernel
theorem dX10_gives_48 : decode cX10_gives 48 = .ok (.iconst 1, 1) := by decide +kernel
theorem dX10_gives_49 : decode cX10_gives 49 = .ok (.iadd, 1) := by decide +kernel
theorem dX10_gives_50 : decode cX10_gives 50 = .ok (.putfield 148, 3) := by decide +kernel
theorem dX10_gives_53 : decode cX10_gives 53 = .ok (.iload 4, 2) := by decide +kernel
theorem dX10_gives_55 : decode cX10_gives 55 = .ok (.ifCond .eq 7, 3) := by decide +kernel
theorem dX10_gives_58 : decode cX10_gives 58 = .ok (.iconst 1, 1) := by decide +kernel
theorem dX10_gives_59 : decode cX10_gives 59 = .ok (.goto 4, 3) := by decide +kernel
theorem dX10_gives_62 : decode cX10_gives 62 = .ok (.iconst 0, 1) := by decide +kernel
theorem dX10_gives_63 : decode cX10_gives 63 = .ok (.istore 5, 2) := by decide +kernel
theorem dX10_gives_65 : decode cX10_gives 65 = .ok (.aload_n 0, 1) := by decide +kernel
theorem dX10_gives_66 : decode cX10_gives 66 = .ok (.invokevirtual 173, 3) := by decide +kernel
theorem dX10_gives_69 : decode cX10_gives 69 = .ok (.istore 4, 2) := by decide +kernel
theorem dX10_gives_71 : decode cX10_gives 71 = .ok (.iload 5, 2) := by decide +kernel
theorem dX10_gives_73 : decode cX10_gives 73 = .ok (.ifCond .eq 12, 3) := by decide +kernel
theorem dX10_gives_76 : decode cX10_gives 76 = .ok (.iload_n 2, 1) := by decide +kernel
theorem dX10_gives_77 : decode cX10_gives 77 = .ok (.ifCond .ne 8, 3) := by decide +kernel
theorem dX10_gives_80 : decode cX10_gives 80 = .ok (.iload 4, 2) := by decide +kernel
theorem dX10_gives_82 : decode cX10_gives 82 = .ok (.goto 4, 3) := by decide +kernel
theorem dX10_gives_85 : decode cX10_gives 85 = .ok (.iload_n 1, 1) := by decide +kernel
theorem dX10_gives_86 : decode cX10_gives 86 = .ok (.istore_n 1, 1) := by decide +kernel
theorem dX10_gives_87 : decode cX10_gives 87 = .ok (.iload_n 2, 1) := by decide +kernel
theorem dX10_gives_88 : decode cX10_gives 88 = .ok (.ifCond .ne 8, 3) := by decide +kernel
theorem dX10_gives_91 : decode cX10_gives 91 = .ok (.iload 5, 2) := by decide +kernel
theorem dX10_gives_93 : decode cX10_gives 93 = .ok (.ifCond .eq 7, 3) := by decide +kernel
theorem dX10_gives_96 : decode cX10_gives 96 = .ok (.iconst 1, 1) := by decide +kernel
theorem dX10_gives_97 : decode cX10_gives 97 = .ok (.goto 4, 3) := by decide +kernel
theorem dX10_gives_100 : decode cX10_gives 100 = .ok (.iconst 0, 1) := by decide +kernel
theorem dX10_gives_101 : decode cX10_gives 101 = .ok (.istore_n 2, 1) := by decide +kernel
theorem dX10_gives_102 : decode cX10_gives 102 = .ok (.aload_n 0, 1) := by decide +kernel
theorem dX10_gives_103 : decode cX10_gives 103 = .ok (.bipush 59, 2) := by decide +kernel
theorem dX10_gives_105 : decode cX10_gives 105 = .ok (.invokevirtual 164, 3) := by decide +kernel
theorem dX10_gives_108 : decode cX10_gives 108 = .ok (.istore_n 3, 1) := by decide +kernel
theorem dX10_gives_109 : decode cX10_gives 109 = .ok (.aload_n 0, 1) := by decide +kernel
theorem dX10_gives_110 : decode cX10_gives 110 = .ok (.dup, 1) := by decide +kernel
theorem dX10_gives_111 : decode cX10_gives 111 = .ok (.getfield 148, 3) := by decide +kernel
theorem dX10_gives_114 : decode cX10_gives 114 = .ok (.iload_n 3, 1) := by decide +kernel
theorem dX10_gives_115 : decode cX10_gives 115 = .ok (.ifCond .eq 7, 3) := by decide +kernel
theorem dX10_gives_118 : decode cX10_gives 118 = .ok (.iconst 1, 1) := by decide +kernel
theorem dX10_gives_119 : decode cX10_gives 119 = .ok (.goto 4, 3) := by decide +kernel
theorem dX10_gives_122 : decode cX10_gives 122 = .ok (.iconst 0, 1) := by decide +kernel
theorem dX10_gives_123 : decode cX10_gives 123 = .ok (.iadd, 1) := by decide +kernel
theorem dX10_gives_124 : decode cX10_gives 124 = .ok (.putfield 148, 3) := by decide +kernel
theorem dX10_gives_127 : decode cX10_gives 127 = .ok (.goto (-106), 3) := by decide +kernel
theorem dX10_gives_130 : decode cX10_gives 130 = .ok (.iload_n 1, 1) := by decide +kernel
theorem dX10_gives_131 : decode cX10_gives 131 = .ok (.ireturn, 1) := by decide +kernel
theorem dX10_law_0 : decode cX10_law 0 = .ok (.aload_n 0, 1) := by decide +kernel
theorem dX10_law_1 : decode cX10_law 1 = .ok (.aload_n 0, 1) := by decide +kernel
theorem dX10_law_2 : decode cX10_law 2 = .ok (.getfield 141, 3) := by decide +kernel
theorem dX10_law_5 : decode cX10_law 5 = .ok (.putfield 151, 3) := by decide +kernel
theorem dX10_law_8 : decode cX10_law 8 = .ok (.iconst 0, 1) := by decide +kernel
theorem dX10_law_9 : decode cX10_law 9 = .ok (.istore_n 1, 1) := by decide +kernel
theorem dX10_law_10 : decode cX10_law 10 = .ok (.iload_n 1, 1) := by decide +kernel
theorem dX10_law_11 : decode cX10_law 11 = .ok (.aload_n 0, 1) := by decide +kernel
theorem dX10_law_12 : decode cX10_law 12 = .ok (.getfield 151, 3) := by decide +kernel
theorem dX10_law_15 : decode cX10_law 15 = .ok (.if_icmp .ge 21, 3) := by decide +kernel
theorem dX10_law_18 : decode cX10_law 18 = .ok (.aload_n 0, 1) := by decide +kernel
theorem dX10_law_19 : decode cX10_law 19 = .ok (.getfield 37, 3) := by decide +kernel
theorem dX10_law_22 : decode cX10_law 22 = .ok (.iload_n 1, 1) := by decide +kernel
theorem dX10_law_23 : decode cX10_law 23 = .ok (.aload_n 0, 1) := by decide +kernel
theorem dX10_law_24 : decode cX10_law 24 = .ok (.getfield 31, 3) := by decide +kernel
theorem dX10_law_27 : decode cX10_law 27 = .ok (.iload_n 1, 1) := by decide +kernel
theorem dX10_law_28 : decode cX10_law 28 = .ok (.iaload, 1) := by decide +kernel
theorem dX10_law_29 : decode cX10_law 29 = .ok (.iastore, 1) := by decide +kernel
theorem dX10_law_30 : decode cX10_law 30 = .ok (.iinc 1 1, 3) := by decide +kernel
theorem dX10_law_33 : decode cX10_law 33 = .ok (.goto (-23), 3) := by decide +kernel
theorem dX10_law_36 : decode cX10_law 36 = .ok (.aload_n 0, 1) := by decide +kernel
theorem dX10_law_37 : decode cX10_law 37 = .ok (.iconst 0, 1) := by decide +kernel
theorem dX10_law_38 : decode cX10_law 38 = .ok (.putfield 141, 3) := by decide +kernel
theorem dX10_law_41 : decode cX10_law 41 = .ok (.iconst 0, 1) := by decide +kernel
theorem dX10_law_42 : decode cX10_law 42 = .ok (.istore_n 1, 1) := by decide +kernel
theorem dX10_law_43 : decode cX10_law 43 = .ok (.iload_n 1, 1) := by decide +kernel
theorem dX10_law_44 : decode cX10_law 44 = .ok (.bipush 6, 2) := by decide +kernel
theorem dX10_law_46 : decode cX10_law 46 = .ok (.if_icmp .ge 16, 3) := by decide +kernel
theorem dX10_law_49 : decode cX10_law 49 = .ok (.aload_n 0, 1) := by decide +kernel
theorem dX10_law_50 : decode cX10_law 50 = .ok (.getfield 40, 3) := by decide +kernel
theorem dX10_law_53 : decode cX10_law 53 = .ok (.iload_n 1, 1) := by decide +kernel
theorem dX10_law_54 : decode cX10_law 54 = .ok (.iconst 0, 1) := by decide +kernel
theorem dX10_law_55 : decode cX10_law 55 = .ok (.iastore, 1) := by decide +kernel
theorem dX10_law_56 : decode cX10_law 56 = .ok (.iinc 1 1, 3) := by decide +kernel
theorem dX10_law_59 : decode cX10_law 59 = .ok (.goto (-16), 3) := by decide +kernel
theorem dX10_law_62 : decode cX10_law 62 = .ok (.aload_n 0, 1) := by decide +kernel
theorem dX10_law_63 : decode cX10_law 63 = .ok (.invokevirtual 188, 3) := by decide +kernel
theorem dX10_law_66 : decode cX10_law 66 = .ok (.pop, 1) := by decide +kernel
theorem dX10_law_67 : decode cX10_law 67 = .ok (.aload_n 0, 1) := by decide +kernel
theorem dX10_law_68 : decode cX10_law 68 = .ok (.getfield 144, 3) := by decide +kernel
theorem dX10_law_71 : decode cX10_law 71 = .ok (.ifCond .eq 14, 3) := by decide +kernel
theorem dX10_law_74 : decode cX10_law 74 = .ok (.aload_n 0, 1) := by decide +kernel
theorem dX10_law_75 : decode cX10_law 75 = .ok (.getfield 148, 3) := by decide +kernel
theorem dX10_law_78 : decode cX10_law 78 = .ok (.aload_n 0, 1) := by decide +kernel
theorem dX10_law_79 : decode cX10_law 79 = .ok (.getfield 151, 3) := by decide +kernel
theorem dX10_law_82 : decode cX10_law 82 = .ok (.if_icmp .ge 11, 3) := by decide +kernel
theorem dX10_law_85 : decode cX10_law 85 = .ok (.bipush (-100), 2) := by decide +kernel
theorem dX10_law_87 : decode cX10_law 87 = .ok (.aload_n 0, 1) := by decide +kernel
theorem dX10_law_88 : decode cX10_law 88 = .ok (.getfield 148, 3) := by decide +kernel
theorem dX10_law_91 : decode cX10_law 91 = .ok (.isub, 1) := by decide +kernel
theorem dX10_law_92 : decode cX10_law 92 = .ok (.ireturn, 1) := by decide +kernel
theorem dX10_law_93 : decode cX10_law 93 = .ok (.iconst 0, 1) := by decide +kernel
theorem dX10_law_94 : decode cX10_law 94 = .ok (.istore_n 1, 1) := by decide +kernel
theorem dX10_law_95 : decode cX10_law 95 = .ok (.iload_n 1, 1) := by decide +kernel
theorem dX10_law_96 : decode cX10_law 96 = .ok (.aload_n 0, 1) := by decide +kernel
theorem dX10_law_97 : decode cX10_law 97 = .ok (.getfield 151, 3) := by decide +kernel
theorem dX10_law_100 : decode cX10_law 100 = .ok (.if_icmp .ge 21, 3) := by decide +kernel
theorem dX10_law_103 : decode cX10_law 103 = .ok (.aload_n 0, 1) := by decide +kernel
theorem dX10_law_104 : decode cX10_law 104 = .ok (.getfield 34, 3) := by decide +kernel
theorem dX10_law_107 : decode cX10_law 107 = .ok (.iload_n 1, 1) := by decide +kernel
theorem dX10_law_108 : decode cX10_law 108 = .ok (.aload_n 0, 1) := by decide +kernel
theorem dX10_law_109 : decode cX10_law 109 = .ok (.getfield 37, 3) := by decide +kernel
theorem dX10_law_112 : decode cX10_law 112 = .ok (.iload_n 1, 1) := by decide +kernel
theorem dX10_law_113 : decode cX10_law 113 = .ok (.iaload, 1) := by decide +kernel
theorem dX10_law_114 : decode cX10_law 114 = .ok (.iastore, 1) := by decide +kernel
theorem dX10_law_115 : decode cX10_law 115 = .ok (.iinc 1 1, 3) := by decide +kernel
theorem dX10_law_118 : decode cX10_law 118 = .ok (.goto (-23), 3) := by decide +kernel
theorem dX10_law_121 : decode cX10_law 121 = .ok (.aload_n 0, 1) := by decide +kernel
theorem dX10_law_122 : decode cX10_law 122 = .ok (.aload_n 0, 1) := by decide +kernel
theorem dX10_law_123 : decode cX10_law 123 = .ok (.getfield 151, 3) := by decide +kernel
theorem dX10_law_126 : decode cX10_law 126 = .ok (.putfield 191, 3) := by decide +kernel
theorem dX10_law_129 : decode cX10_law 129 = .ok (.aload_n 0, 1) := by decide +kernel
theorem dX10_law_130 : decode cX10_law 130 = .ok (.iconst 1, 1) := by decide +kernel
theorem dX10_law_131 : decode cX10_law 131 = .ok (.putfield 194, 3) := by decide +kernel
theorem dX10_law_134 : decode cX10_law 134 = .ok (.iconst 1, 1) := by decide +kernel
theorem dX10_law_135 : decode cX10_law 135 = .ok (.ireturn, 1) := by decide +kernel
theorem dX10_left_0 : decode cX10_left 0 = .ok (.iconst 0, 1) := by decide +kernel
theorem dX10_left_1 : decode cX10_left 1 = .ok (.istore_n 1, 1) := by decide +kernel
theorem dX10_left_2 : decode cX10_left 2 = .ok (.iconst 0, 1) := by decide +kernel
theorem dX10_left_3 : decode cX10_left 3 = .ok (.istore_n 2, 1) := by decide +kernel
theorem dX10_left_4 : decode cX10_left 4 = .ok (.iload_n 2, 1) := by decide +kernel
theorem dX10_left_5 : decode cX10_left 5 = .ok (.aload_n 0, 1) := by decide +kernel
theorem dX10_left_6 : decode cX10_left 6 = .ok (.getfield 103, 3) := by decide +kernel
theorem dX10_left_9 : decode cX10_left 9 = .ok (.if_icmp .ge 25, 3) := by decide +kernel
theorem dX10_left_12 : decode cX10_left 12 = .ok (.iload_n 1, 1) := by decide +kernel
theorem dX10_left_13 : decode cX10_left 13 = .ok (.aload_n 0, 1) := by decide +kernel
theorem dX10_left_14 : decode cX10_left 14 = .ok (.iload_n 2, 1) := by decide +kernel
theorem dX10_left_15 : decode cX10_left 15 = .ok (.invokevirtual 197, 3) := by decide +kernel
theorem dX10_left_18 : decode cX10_left 18 = .ok (.ifCond .eq 7, 3) := by decide +kernel
theorem dX10_left_21 : decode cX10_left 21 = .ok (.iconst 1, 1) := by decide +kernel
theorem dX10_left_22 : decode cX10_left 22 = .ok (.goto 4, 3) := by decide +kernel
theorem dX10_left_25 : decode cX10_left 25 = .ok (.iconst 0, 1) := by decide +kernel
theorem dX10_left_26 : decode cX10_left 26 = .ok (.iadd, 1) := by decide +kernel
theorem dX10_left_27 : decode cX10_left 27 = .ok (.istore_n 1, 1) := by decide +kernel
theorem dX10_left_28 : decode cX10_left 28 = .ok (.iinc 2 1, 3) := by decide +kernel
theorem dX10_left_31 : decode cX10_left 31 = .ok (.goto (-27), 3) := by decide +kernel
theorem dX10_left_34 : decode cX10_left 34 = .ok (.iload_n 1, 1) := by decide +kernel
theorem dX10_left_35 : decode cX10_left 35 = .ok (.ireturn, 1) := by decide +kernel
theorem dX10_sorryBy_0 : decode cX10_sorryBy 0 = .ok (.aload_n 0, 1) := by decide +kernel
theorem dX10_sorryBy_1 : decode cX10_sorryBy 1 = .ok (.getfield 194, 3) := by decide +kernel
theorem dX10_sorryBy_4 : decode cX10_sorryBy 4 = .ok (.ifCond .ne 40, 3) := by decide +kernel
theorem dX10_sorryBy_7 : decode cX10_sorryBy 7 = .ok (.aload_n 0, 1) := by decide +kernel
theorem dX10_sorryBy_8 : decode cX10_sorryBy 8 = .ok (.iload_n 1, 1) := by decide +kernel
theorem dX10_sorryBy_9 : decode cX10_sorryBy 9 = .ok (.iconst 0, 1) := by decide +kernel
theorem dX10_sorryBy_10 : decode cX10_sorryBy 10 = .ok (.invokevirtual 110, 3) := by decide +kernel
theorem dX10_sorryBy_13 : decode cX10_sorryBy 13 = .ok (.iconst 2, 1) := by decide +kernel
theorem dX10_sorryBy_14 : decode cX10_sorryBy 14 = .ok (.aload_n 0, 1) := by decide +kernel
theorem dX10_sorryBy_15 : decode cX10_sorryBy 15 = .ok (.iload_n 1, 1) := by decide +kernel
theorem dX10_sorryBy_16 : decode cX10_sorryBy 16 = .ok (.iconst 2, 1) := by decide +kernel
theorem dX10_sorryBy_17 : decode cX10_sorryBy 17 = .ok (.invokevirtual 110, 3) := by decide +kernel
theorem dX10_sorryBy_20 : decode cX10_sorryBy 20 = .ok (.imul, 1) := by decide +kernel
theorem dX10_sorryBy_21 : decode cX10_sorryBy 21 = .ok (.iadd, 1) := by decide +kernel
theorem dX10_sorryBy_22 : decode cX10_sorryBy 22 = .ok (.aload_n 0, 1) := by decide +kernel
theorem dX10_sorryBy_23 : decode cX10_sorryBy 23 = .ok (.iload_n 1, 1) := by decide +kernel
theorem dX10_sorryBy_24 : decode cX10_sorryBy 24 = .ok (.iconst 3, 1) := by decide +kernel
theorem dX10_sorryBy_25 : decode cX10_sorryBy 25 = .ok (.invokevirtual 110, 3) := by decide +kernel
theorem dX10_sorryBy_28 : decode cX10_sorryBy 28 = .ok (.ifCond .ne 7, 3) := by decide +kernel
theorem dX10_sorryBy_31 : decode cX10_sorryBy 31 = .ok (.iconst 5, 1) := by decide +kernel
theorem dX10_sorryBy_32 : decode cX10_sorryBy 32 = .ok (.goto 4, 3) := by decide +kernel
theorem dX10_sorryBy_35 : decode cX10_sorryBy 35 = .ok (.iconst 0, 1) := by decide +kernel
theorem dX10_sorryBy_36 : decode cX10_sorryBy 36 = .ok (.isub, 1) := by decide +kernel
theorem dX10_sorryBy_37 : decode cX10_sorryBy 37 = .ok (.iconst 0, 1) := by decide +kernel
theorem dX10_sorryBy_38 : decode cX10_sorryBy 38 = .ok (.bipush 99, 2) := by decide +kernel
theorem dX10_sorryBy_40 : decode cX10_sorryBy 40 = .ok (.invokestatic 200, 3) := by decide +kernel
theorem dX10_sorryBy_43 : decode cX10_sorryBy 43 = .ok (.ireturn, 1) := by decide +kernel
theorem dX10_sorryBy_44 : decode cX10_sorryBy 44 = .ok (.aload_n 0, 1) := by decide +kernel
theorem dX10_sorryBy_45 : decode cX10_sorryBy 45 = .ok (.getfield 40, 3) := by decide +kernel
theorem dX10_sorryBy_48 : decode cX10_sorryBy 48 = .ok (.iconst 0, 1) := by decide +kernel
theorem dX10_sorryBy_49 : decode cX10_sorryBy 49 = .ok (.aload_n 0, 1) := by decide +kernel
theorem dX10_sorryBy_50 : decode cX10_sorryBy 50 = .ok (.iload_n 1, 1) := by decide +kernel
theorem dX10_sorryBy_51 : decode cX10_sorryBy 51 = .ok (.iconst 0, 1) := by decide +kernel
theorem dX10_sorryBy_52 : decode cX10_sorryBy 52 = .ok (.invokevirtual 110, 3) := by decide +kernel
theorem dX10_sorryBy_55 : decode cX10_sorryBy 55 = .ok (.iastore, 1) := by decide +kernel
theorem dX10_sorryBy_56 : decode cX10_sorryBy 56 = .ok (.aload_n 0, 1) := by decide +kernel
theorem dX10_sorryBy_57 : decode cX10_sorryBy 57 = .ok (.getfield 40, 3) := by decide +kernel
theorem dX10_sorryBy_60 : decode cX10_sorryBy 60 = .ok (.iconst 1, 1) := by decide +kernel
theorem dX10_sorryBy_61 : decode cX10_sorryBy 61 = .ok (.aload_n 0, 1) := by decide +kernel
theorem dX10_sorryBy_62 : decode cX10_sorryBy 62 = .ok (.iload_n 1, 1) := by decide +kernel
theorem dX10_sorryBy_63 : decode cX10_sorryBy 63 = .ok (.iconst 2, 1) := by decide +kernel
theorem dX10_sorryBy_64 : decode cX10_sorryBy 64 = .ok (.invokevirtual 110, 3) := by decide +kernel
theorem dX10_sorryBy_67 : decode cX10_sorryBy 67 = .ok (.iastore, 1) := by decide +kernel
theorem dX10_sorryBy_68 : decode cX10_sorryBy 68 = .ok (.aload_n 0, 1) := by decide +kernel
theorem dX10_sorryBy_69 : decode cX10_sorryBy 69 = .ok (.getfield 40, 3) := by decide +kernel
theorem dX10_sorryBy_72 : decode cX10_sorryBy 72 = .ok (.iconst 2, 1) := by decide +kernel
theorem dX10_sorryBy_73 : decode cX10_sorryBy 73 = .ok (.aload_n 0, 1) := by decide +kernel
theorem dX10_sorryBy_74 : decode cX10_sorryBy 74 = .ok (.iload_n 1, 1) := by decide +kernel
theorem dX10_sorryBy_75 : decode cX10_sorryBy 75 = .ok (.iconst 3, 1) := by decide +kernel
theorem dX10_sorryBy_76 : decode cX10_sorryBy 76 = .ok (.invokevirtual 110, 3) := by decide +kernel
theorem dX10_sorryBy_79 : decode cX10_sorryBy 79 = .ok (.iastore, 1) := by decide +kernel
theorem dX10_sorryBy_80 : decode cX10_sorryBy 80 = .ok (.aload_n 0, 1) := by decide +kernel
theorem dX10_sorryBy_81 : decode cX10_sorryBy 81 = .ok (.getfield 40, 3) := by decide +kernel
theorem dX10_sorryBy_84 : decode cX10_sorryBy 84 = .ok (.iconst 3, 1) := by decide +kernel
theorem dX10_sorryBy_85 : decode cX10_sorryBy 85 = .ok (.aload_n 0, 1) := by decide +kernel
theorem dX10_sorryBy_86 : decode cX10_sorryBy 86 = .ok (.getfield 7, 3) := by decide +kernel
theorem dX10_sorryBy_89 : decode cX10_sorryBy 89 = .ok (.bipush 93, 2) := by decide +kernel
theorem dX10_sorryBy_91 : decode cX10_sorryBy 91 = .ok (.iaload, 1) := by decide +kernel
theorem dX10_sorryBy_92 : decode cX10_sorryBy 92 = .ok (.iastore, 1) := by decide +kernel
theorem dX10_sorryBy_93 : decode cX10_sorryBy 93 = .ok (.aload_n 0, 1) := by decide +kernel
theorem dX10_sorryBy_94 : decode cX10_sorryBy 94 = .ok (.getfield 40, 3) := by decide +kernel
theorem dX10_sorryBy_97 : decode cX10_sorryBy 97 = .ok (.iconst 4, 1) := by decide +kernel
theorem dX10_sorryBy_98 : decode cX10_sorryBy 98 = .ok (.aload_n 0, 1) := by decide +kernel
theorem dX10_sorryBy_99 : decode cX10_sorryBy 99 = .ok (.invokevirtual 203, 3) := by decide +kernel
theorem dX10_sorryBy_102 : decode cX10_sorryBy 102 = .ok (.iastore, 1) := by decide +kernel
theorem dX10_sorryBy_103 : decode cX10_sorryBy 103 = .ok (.aload_n 0, 1) := by decide +kernel
theorem dX10_sorryBy_104 : decode cX10_sorryBy 104 = .ok (.getfield 40, 3) := by decide +kernel
theorem dX10_sorryBy_107 : decode cX10_sorryBy 107 = .ok (.iconst 5, 1) := by decide +kernel
theorem dX10_sorryBy_108 : decode cX10_sorryBy 108 = .ok (.iload_n 1, 1) := by decide +kernel
theorem dX10_sorryBy_109 : decode cX10_sorryBy 109 = .ok (.iastore, 1) := by decide +kernel
theorem dX10_sorryBy_110 : decode cX10_sorryBy 110 = .ok (.aload_n 0, 1) := by decide +kernel
theorem dX10_sorryBy_111 : decode cX10_sorryBy 111 = .ok (.aload_n 0, 1) := by decide +kernel
theorem dX10_sorryBy_112 : decode cX10_sorryBy 112 = .ok (.getfield 191, 3) := by decide +kernel
theorem dX10_sorryBy_115 : decode cX10_sorryBy 115 = .ok (.putfield 151, 3) := by decide +kernel
theorem dX10_sorryBy_118 : decode cX10_sorryBy 118 = .ok (.iconst 0, 1) := by decide +kernel
theorem dX10_sorryBy_119 : decode cX10_sorryBy 119 = .ok (.istore_n 2, 1) := by decide +kernel
theorem dX10_sorryBy_120 : decode cX10_sorryBy 120 = .ok (.iload_n 2, 1) := by decide +kernel
theorem dX10_sorryBy_121 : decode cX10_sorryBy 121 = .ok (.aload_n 0, 1) := by decide +kernel
theorem dX10_sorryBy_122 : decode cX10_sorryBy 122 = .ok (.getfield 151, 3) := by decide +kernel
theorem dX10_sorryBy_125 : decode cX10_sorryBy 125 = .ok (.if_icmp .ge 21, 3) := by decide +kernel
theorem dX10_sorryBy_128 : decode cX10_sorryBy 128 = .ok (.aload_n 0, 1) := by decide +kernel
theorem dX10_sorryBy_129 : decode cX10_sorryBy 129 = .ok (.getfield 37, 3) := by decide +kernel
theorem dX10_sorryBy_132 : decode cX10_sorryBy 132 = .ok (.iload_n 2, 1) := by decide +kernel
theorem dX10_sorryBy_133 : decode cX10_sorryBy 133 = .ok (.aload_n 0, 1) := by decide +kernel
theorem dX10_sorryBy_134 : decode cX10_sorryBy 134 = .ok (.getfield 34, 3) := by decide +kernel
theorem dX10_sorryBy_137 : decode cX10_sorryBy 137 = .ok (.iload_n 2, 1) := by decide +kernel
theorem dX10_sorryBy_138 : decode cX10_sorryBy 138 = .ok (.iaload, 1) := by decide +kernel
theorem dX10_sorryBy_139 : decode cX10_sorryBy 139 = .ok (.iastore, 1) := by decide +kernel
theorem dX10_sorryBy_140 : decode cX10_sorryBy 140 = .ok (.iinc 2 1, 3) := by decide +kernel
theorem dX10_sorryBy_143 : decode cX10_sorryBy 143 = .ok (.goto (-23), 3) := by decide +kernel
theorem dX10_sorryBy_146 : decode cX10_sorryBy 146 = .ok (.aload_n 0, 1) := by decide +kernel
theorem dX10_sorryBy_147 : decode cX10_sorryBy 147 = .ok (.invokevirtual 188, 3) := by decide +kernel
theorem dX10_sorryBy_150 : decode cX10_sorryBy 150 = .ok (.iconst 0, 1) := by decide +kernel
theorem dX10_sorryBy_151 : decode cX10_sorryBy 151 = .ok (.bipush 99, 2) := by decide +kernel
theorem dX10_sorryBy_153 : decode cX10_sorryBy 153 = .ok (.invokestatic 200, 3) := by decide +kernel
theorem dX10_sorryBy_156 : decode cX10_sorryBy 156 = .ok (.ireturn, 1) := by decide +kernel
theorem dX10_goMinute_0 : decode cX10_goMinute 0 = .ok (.iconst 0, 1) := by decide +kernel
theorem dX10_goMinute_1 : decode cX10_goMinute 1 = .ok (.istore_n 1, 1) := by decide +kernel
theorem dX10_goMinute_2 : decode cX10_goMinute 2 = .ok (.iload_n 1, 1) := by decide +kernel
theorem dX10_goMinute_3 : decode cX10_goMinute 3 = .ok (.aload_n 0, 1) := by decide +kernel
theorem dX10_goMinute_4 : decode cX10_goMinute 4 = .ok (.getfield 103, 3) := by decide +kernel
theorem dX10_goMinute_7 : decode cX10_goMinute 7 = .ok (.if_icmp .ge 143, 3) := by decide +kernel
theorem dX10_goMinute_10 : decode cX10_goMinute 10 = .ok (.aload_n 0, 1) := by decide +kernel
theorem dX10_goMinute_11 : decode cX10_goMinute 11 = .ok (.iload_n 1, 1) := by decide +kernel
theorem dX10_goMinute_12 : decode cX10_goMinute 12 = .ok (.invokevirtual 197, 3) := by decide +kernel
theorem dX10_goMinute_15 : decode cX10_goMinute 15 = .ok (.ifCond .eq 129, 3) := by decide +kernel
theorem dX10_goMinute_18 : decode cX10_goMinute 18 = .ok (.aload_n 0, 1) := by decide +kernel
theorem dX10_goMinute_19 : decode cX10_goMinute 19 = .ok (.iload_n 1, 1) := by decide +kernel
theorem dX10_goMinute_20 : decode cX10_goMinute 20 = .ok (.iconst 0, 1) := by decide +kernel
theorem dX10_goMinute_21 : decode cX10_goMinute 21 = .ok (.invokevirtual 110, 3) := by decide +kernel
theorem dX10_goMinute_24 : decode cX10_goMinute 24 = .ok (.aload_n 0, 1) := by decide +kernel
theorem dX10_goMinute_25 : decode cX10_goMinute 25 = .ok (.iload_n 1, 1) := by decide +kernel
theorem dX10_goMinute_26 : decode cX10_goMinute 26 = .ok (.iconst 1, 1) := by decide +kernel
theorem dX10_goMinute_27 : decode cX10_goMinute 27 = .ok (.invokevirtual 110, 3) := by decide +kernel
theorem dX10_goMinute_30 : decode cX10_goMinute 30 = .ok (.isub, 1) := by decide +kernel
theorem dX10_goMinute_31 : decode cX10_goMinute 31 = .ok (.istore_n 2, 1) := by decide +kernel
theorem dX10_goMinute_32 : decode cX10_goMinute 32 = .ok (.iconst 0, 1) := by decide +kernel
theorem dX10_goMinute_33 : decode cX10_goMinute 33 = .ok (.istore_n 3, 1) := by decide +kernel
theorem dX10_goMinute_34 : decode cX10_goMinute 34 = .ok (.iload_n 3, 1) := by decide +kernel
theorem dX10_goMinute_35 : decode cX10_goMinute 35 = .ok (.aload_n 0, 1) := by decide +kernel
theorem dX10_goMinute_36 : decode cX10_goMinute 36 = .ok (.getfield 121, 3) := by decide +kernel
theorem dX10_goMinute_39 : decode cX10_goMinute 39 = .ok (.if_icmp .ge 63, 3) := by decide +kernel
theorem dX10_goMinute_42 : decode cX10_goMinute 42 = .ok (.bipush 54, 2) := by decide +kernel
theorem dX10_goMinute_44 : decode cX10_goMinute 44 = .ok (.iconst 3, 1) := by decide +kernel
theorem dX10_goMinute_45 : decode cX10_goMinute 45 = .ok (.iload_n 3, 1) := by decide +kernel
theorem dX10_goMinute_46 : decode cX10_goMinute 46 = .ok (.imul, 1) := by decide +kernel
theorem dX10_goMinute_47 : decode cX10_goMinute 47 = .ok (.iadd, 1) := by decide +kernel
theorem dX10_goMinute_48 : decode cX10_goMinute 48 = .ok (.istore 4, 2) := by decide +kernel
theorem dX10_goMinute_50 : decode cX10_goMinute 50 = .ok (.iload_n 2, 1) := by decide +kernel
theorem dX10_goMinute_51 : decode cX10_goMinute 51 = .ok (.aload_n 0, 1) := by decide +kernel
theorem dX10_goMinute_52 : decode cX10_goMinute 52 = .ok (.getfield 7, 3) := by decide +kernel
theorem dX10_goMinute_55 : decode cX10_goMinute 55 = .ok (.iload 4, 2) := by decide +kernel
theorem dX10_goMinute_57 : decode cX10_goMinute 57 = .ok (.iaload, 1) := by decide +kernel
theorem dX10_goMinute_58 : decode cX10_goMinute 58 = .ok (.aload_n 0, 1) := by decide +kernel
theorem dX10_goMinute_59 : decode cX10_goMinute 59 = .ok (.getfield 7, 3) := by decide +kernel
theorem dX10_goMinute_62 : decode cX10_goMinute 62 = .ok (.bipush 93, 2) := by decide +kernel
theorem dX10_goMinute_64 : decode cX10_goMinute 64 = .ok (.iaload, 1) := by decide +kernel
theorem dX10_goMinute_65 : decode cX10_goMinute 65 = .ok (.if_icmp .ne 28, 3) := by decide +kernel
theorem dX10_goMinute_68 : decode cX10_goMinute 68 = .ok (.aload_n 0, 1) := by decide +kernel
theorem dX10_goMinute_69 : decode cX10_goMinute 69 = .ok (.getfield 7, 3) := by decide +kernel
theorem dX10_goMinute_72 : decode cX10_goMinute 72 = .ok (.iload 4, 2) := by decide +kernel
theorem dX10_goMinute_74 : decode cX10_goMinute 74 = .ok (.iconst 2, 1) := by decide +kernel
theorem dX10_goMinute_75 : decode cX10_goMinute 75 = .ok (.iadd, 1) := by decide +kernel
theorem dX10_goMinute_76 : decode cX10_goMinute 76 = .ok (.iaload, 1) := by decide +kernel
theorem dX10_goMinute_77 : decode cX10_goMinute 77 = .ok (.iload_n 1, 1) := by decide +kernel
theorem dX10_goMinute_78 : decode cX10_goMinute 78 = .ok (.if_icmp .ne 15, 3) := by decide +kernel
theorem dX10_goMinute_81 : decode cX10_goMinute 81 = .ok (.aload_n 0, 1) := by decide +kernel
theorem dX10_goMinute_82 : decode cX10_goMinute 82 = .ok (.getfield 7, 3) := by decide +kernel
theorem dX10_goMinute_85 : decode cX10_goMinute 85 = .ok (.iload 4, 2) := by decide +kernel
theorem dX10_goMinute_87 : decode cX10_goMinute 87 = .ok (.iconst 1, 1) := by decide +kernel
theorem dX10_goMinute_88 : decode cX10_goMinute 88 = .ok (.iadd, 1) := by decide +kernel
theorem dX10_goMinute_89 : decode cX10_goMinute 89 = .ok (.iaload, 1) := by decide +kernel
theorem dX10_goMinute_90 : decode cX10_goMinute 90 = .ok (.goto 4, 3) := by decide +kernel
theorem dX10_goMinute_93 : decode cX10_goMinute 93 = .ok (.iconst 0, 1) := by decide +kernel
theorem dX10_goMinute_94 : decode cX10_goMinute 94 = .ok (.iadd, 1) := by decide +kernel
theorem dX10_goMinute_95 : decode cX10_goMinute 95 = .ok (.istore_n 2, 1) := by decide +kernel
theorem dX10_goMinute_96 : decode cX10_goMinute 96 = .ok (.iinc 3 1, 3) := by decide +kernel
theorem dX10_goMinute_99 : decode cX10_goMinute 99 = .ok (.goto (-65), 3) := by decide +kernel
theorem dX10_goMinute_102 : decode cX10_goMinute 102 = .ok (.aload_n 0, 1) := by decide +kernel
theorem dX10_goMinute_103 : decode cX10_goMinute 103 = .ok (.getfield 47, 3) := by decide +kernel
theorem dX10_goMinute_106 : decode cX10_goMinute 106 = .ok (.iload_n 1, 1) := by decide +kernel
theorem dX10_goMinute_107 : decode cX10_goMinute 107 = .ok (.if_icmp .ne 24, 3) := by decide +kernel
theorem dX10_goMinute_110 : decode cX10_goMinute 110 = .ok (.aload_n 0, 1) := by decide +kernel
theorem dX10_goMinute_111 : decode cX10_goMinute 111 = .ok (.getfield 206, 3) := by decide +kernel
theorem dX10_goMinute_114 : decode cX10_goMinute 114 = .ok (.aload_n 0, 1) := by decide +kernel
theorem dX10_goMinute_115 : decode cX10_goMinute 115 = .ok (.getfield 7, 3) := by decide +kernel
theorem dX10_goMinute_118 : decode cX10_goMinute 118 = .ok (.bipush 93, 2) := by decide +kernel
theorem dX10_goMinute_120 : decode cX10_goMinute 120 = .ok (.iaload, 1) := by decide +kernel
theorem dX10_goMinute_121 : decode cX10_goMinute 121 = .ok (.if_icmp .ne 10, 3) := by decide +kernel
theorem dX10_goMinute_124 : decode cX10_goMinute 124 = .ok (.iload_n 2, 1) := by decide +kernel
theorem dX10_goMinute_125 : decode cX10_goMinute 125 = .ok (.aload_n 0, 1) := by decide +kernel
theorem dX10_goMinute_126 : decode cX10_goMinute 126 = .ok (.getfield 209, 3) := by decide +kernel
theorem dX10_goMinute_129 : decode cX10_goMinute 129 = .ok (.iadd, 1) := by decide +kernel
theorem dX10_goMinute_130 : decode cX10_goMinute 130 = .ok (.istore_n 2, 1) := by decide +kernel
theorem dX10_goMinute_131 : decode cX10_goMinute 131 = .ok (.aload_n 0, 1) := by decide +kernel
theorem dX10_goMinute_132 : decode cX10_goMinute 132 = .ok (.iload_n 1, 1) := by decide +kernel
theorem dX10_goMinute_133 : decode cX10_goMinute 133 = .ok (.iconst 0, 1) := by decide +kernel
theorem dX10_goMinute_134 : decode cX10_goMinute 134 = .ok (.iload_n 2, 1) := by decide +kernel
theorem dX10_goMinute_135 : decode cX10_goMinute 135 = .ok (.iconst 0, 1) := by decide +kernel
theorem dX10_goMinute_136 : decode cX10_goMinute 136 = .ok (.bipush 99, 2) := by decide +kernel
theorem dX10_goMinute_138 : decode cX10_goMinute 138 = .ok (.invokestatic 200, 3) := by decide +kernel
theorem dX10_goMinute_141 : decode cX10_goMinute 141 = .ok (.invokevirtual 113, 3) := by decide +kernel
theorem dX10_goMinute_144 : decode cX10_goMinute 144 = .ok (.iinc 1 1, 3) := by decide +kernel
theorem dX10_goMinute_147 : decode cX10_goMinute 147 = .ok (.goto (-145), 3) := by decide +kernel
theorem dX10_goMinute_150 : decode cX10_goMinute 150 = .ok (.aload_n 0, 1) := by decide +kernel
theorem dX10_goMinute_151 : decode cX10_goMinute 151 = .ok (.getfield 7, 3) := by decide +kernel
theorem dX10_goMinute_154 : decode cX10_goMinute 154 = .ok (.bipush 93, 2) := by decide +kernel
theorem dX10_goMinute_156 : decode cX10_goMinute 156 = .ok (.sipush 199, 3) := by decide +kernel
theorem dX10_goMinute_159 : decode cX10_goMinute 159 = .ok (.aload_n 0, 1) := by decide +kernel
theorem dX10_goMinute_160 : decode cX10_goMinute 160 = .ok (.getfield 7, 3) := by decide +kernel
theorem dX10_goMinute_163 : decode cX10_goMinute 163 = .ok (.bipush 93, 2) := by decide +kernel
theorem dX10_goMinute_165 : decode cX10_goMinute 165 = .ok (.iaload, 1) := by decide +kernel
theorem dX10_goMinute_166 : decode cX10_goMinute 166 = .ok (.iconst 1, 1) := by decide +kernel
theorem dX10_goMinute_167 : decode cX10_goMinute 167 = .ok (.iadd, 1) := by decide +kernel
theorem dX10_goMinute_168 : decode cX10_goMinute 168 = .ok (.invokestatic 94, 3) := by decide +kernel
theorem dX10_goMinute_171 : decode cX10_goMinute 171 = .ok (.iastore, 1) := by decide +kernel
theorem dX10_goMinute_172 : decode cX10_goMinute 172 = .ok (.return_, 1) := by decide +kernel
theorem dX10_goMinutes_0 : decode cX10_goMinutes 0 = .ok (.iconst 0, 1) := by decide +kernel
theorem dX10_goMinutes_1 : decode cX10_goMinutes 1 = .ok (.istore_n 2, 1) := by decide +kernel
theorem dX10_goMinutes_2 : decode cX10_goMinutes 2 = .ok (.iload_n 2, 1) := by decide +kernel
theorem dX10_goMinutes_3 : decode cX10_goMinutes 3 = .ok (.iload_n 1, 1) := by decide +kernel
theorem dX10_goMinutes_4 : decode cX10_goMinutes 4 = .ok (.if_icmp .ge 13, 3) := by decide +kernel
theorem dX10_goMinutes_7 : decode cX10_goMinutes 7 = .ok (.aload_n 0, 1) := by decide +kernel
theorem dX10_goMinutes_8 : decode cX10_goMinutes 8 = .ok (.invokevirtual 212, 3) := by decide +kernel
theorem dX10_goMinutes_11 : decode cX10_goMinutes 11 = .ok (.iinc 2 1, 3) := by decide +kernel
theorem dX10_goMinutes_14 : decode cX10_goMinutes 14 = .ok (.goto (-12), 3) := by decide +kernel
theorem dX10_goMinutes_17 : decode cX10_goMinutes 17 = .ok (.return_, 1) := by decide +kernel
theorem dX10_lay_0 : decode cX10_lay 0 = .ok (.iconst 0, 1) := by decide +kernel
theorem dX10_lay_1 : decode cX10_lay 1 = .ok (.istore_n 1, 1) := by decide +kernel
theorem dX10_lay_2 : decode cX10_lay 2 = .ok (.iconst 0, 1) := by decide +kernel
theorem dX10_lay_3 : decode cX10_lay 3 = .ok (.istore_n 2, 1) := by decide +kernel
theorem dX10_lay_4 : decode cX10_lay 4 = .ok (.iload_n 2, 1) := by decide +kernel
theorem dX10_lay_5 : decode cX10_lay 5 = .ok (.aload_n 0, 1) := by decide +kernel
theorem dX10_lay_6 : decode cX10_lay 6 = .ok (.getfield 103, 3) := by decide +kernel
theorem dX10_lay_9 : decode cX10_lay 9 = .ok (.if_icmp .ge 86, 3) := by decide +kernel
theorem dX10_lay_12 : decode cX10_lay 12 = .ok (.aload_n 0, 1) := by decide +kernel
theorem dX10_lay_13 : decode cX10_lay 13 = .ok (.getfield 54, 3) := by decide +kernel
theorem dX10_lay_16 : decode cX10_lay 16 = .ok (.iload_n 2, 1) := by decide +kernel
theorem dX10_lay_17 : decode cX10_lay 17 = .ok (.aload_n 0, 1) := by decide +kernel
theorem dX10_lay_18 : decode cX10_lay 18 = .ok (.iload_n 2, 1) := by decide +kernel
theorem dX10_lay_19 : decode cX10_lay 19 = .ok (.invokevirtual 215, 3) := by decide +kernel
theorem dX10_lay_22 : decode cX10_lay 22 = .ok (.iastore, 1) := by decide +kernel
theorem dX10_lay_23 : decode cX10_lay 23 = .ok (.aload_n 0, 1) := by decide +kernel
theorem dX10_lay_24 : decode cX10_lay 24 = .ok (.iload_n 2, 1) := by decide +kernel
theorem dX10_lay_25 : decode cX10_lay 25 = .ok (.invokevirtual 197, 3) := by decide +kernel
theorem dX10_lay_28 : decode cX10_lay 28 = .ok (.ifCond .eq 61, 3) := by decide +kernel
theorem dX10_lay_31 : decode cX10_lay 31 = .ok (.iload_n 1, 1) := by decide +kernel
theorem dX10_lay_32 : decode cX10_lay 32 = .ok (.istore_n 3, 1) := by decide +kernel
theorem dX10_lay_33 : decode cX10_lay 33 = .ok (.iload_n 3, 1) := by decide +kernel
theorem dX10_lay_34 : decode cX10_lay 34 = .ok (.ifCond .le 45, 3) := by decide +kernel
theorem dX10_lay_37 : decode cX10_lay 37 = .ok (.aload_n 0, 1) := by decide +kernel
theorem dX10_lay_38 : decode cX10_lay 38 = .ok (.getfield 54, 3) := by decide +kernel
theorem dX10_lay_41 : decode cX10_lay 41 = .ok (.aload_n 0, 1) := by decide +kernel
theorem dX10_lay_42 : decode cX10_lay 42 = .ok (.getfield 51, 3) := by decide +kernel
theorem dX10_lay_45 : decode cX10_lay 45 = .ok (.iload_n 3, 1) := by decide +kernel
theorem dX10_lay_46 : decode cX10_lay 46 = .ok (.iconst 1, 1) := by decide +kernel
theorem dX10_lay_47 : decode cX10_lay 47 = .ok (.isub, 1) := by decide +kernel
theorem dX10_lay_48 : decode cX10_lay 48 = .ok (.iaload, 1) := by decide +kernel
theorem dX10_lay_49 : decode cX10_lay 49 = .ok (.iaload, 1) := by decide +kernel
theorem dX10_lay_50 : decode cX10_lay 50 = .ok (.aload_n 0, 1) := by decide +kernel
theorem dX10_lay_51 : decode cX10_lay 51 = .ok (.getfield 54, 3) := by decide +kernel
theorem dX10_lay_54 : decode cX10_lay 54 = .ok (.iload_n 2, 1) := by decide +kernel
theorem dX10_lay_55 : decode cX10_lay 55 = .ok (.iaload, 1) := by decide +kernel
theorem dX10_lay_56 : decode cX10_lay 56 = .ok (.if_icmp .ge 23, 3) := by decide +kernel
theorem dX10_lay_59 : decode cX10_lay 59 = .ok (.aload_n 0, 1) := by decide +kernel
theorem dX10_lay_60 : decode cX10_lay 60 = .ok (.getfield 51, 3) := by decide +kernel
theorem dX10_lay_63 : decode cX10_lay 63 = .ok (.iload_n 3, 1) := by decide +kernel
theorem dX10_lay_64 : decode cX10_lay 64 = .ok (.aload_n 0, 1) := by decide +kernel
theorem dX10_lay_65 : decode cX10_lay 65 = .ok (.getfield 51, 3) := by decide +kernel
theorem dX10_lay_68 : decode cX10_lay 68 = .ok (.iload_n 3, 1) := by decide +kernel
theorem dX10_lay_69 : decode cX10_lay 69 = .ok (.iconst 1, 1) := by decide +kernel
theorem dX10_lay_70 : decode cX10_lay 70 = .ok (.isub, 1) := by decide +kernel
theorem dX10_lay_71 : decode cX10_lay 71 = .ok (.iaload, 1) := by decide +kernel
theorem dX10_lay_72 : decode cX10_lay 72 = .ok (.iastore, 1) := by decide +kernel
theorem dX10_lay_73 : decode cX10_lay 73 = .ok (.iinc 3 (-1), 3) := by decide +kernel
theorem dX10_lay_76 : decode cX10_lay 76 = .ok (.goto (-43), 3) := by decide +kernel
theorem dX10_lay_79 : decode cX10_lay 79 = .ok (.aload_n 0, 1) := by decide +kernel
theorem dX10_lay_80 : decode cX10_lay 80 = .ok (.getfield 51, 3) := by decide +kernel
theorem dX10_lay_83 : decode cX10_lay 83 = .ok (.iload_n 3, 1) := by decide +kernel
theorem dX10_lay_84 : decode cX10_lay 84 = .ok (.iload_n 2, 1) := by decide +kernel
theorem dX10_lay_85 : decode cX10_lay 85 = .ok (.iastore, 1) := by decide +kernel
theorem dX10_lay_86 : decode cX10_lay 86 = .ok (.iinc 1 1, 3) := by decide +kernel
theorem dX10_lay_89 : decode cX10_lay 89 = .ok (.iinc 2 1, 3) := by decide +kernel
theorem dX10_lay_92 : decode cX10_lay 92 = .ok (.goto (-88), 3) := by decide +kernel
theorem dX10_lay_95 : decode cX10_lay 95 = .ok (.iload_n 1, 1) := by decide +kernel
theorem dX10_lay_96 : decode cX10_lay 96 = .ok (.ireturn, 1) := by decide +kernel
theorem dX10_placeOf_0 : decode cX10_placeOf 0 = .ok (.aload_n 0, 1) := by decide +kernel
theorem dX10_placeOf_1 : decode cX10_placeOf 1 = .ok (.invokevirtual 219, 3) := by decide +kernel
theorem dX10_placeOf_4 : decode cX10_placeOf 4 = .ok (.istore_n 2, 1) := by decide +kernel
theorem dX10_placeOf_5 : decode cX10_placeOf 5 = .ok (.iconst 0, 1) := by decide +kernel
theorem dX10_placeOf_6 : decode cX10_placeOf 6 = .ok (.istore_n 3, 1) := by decide +kernel
theorem dX10_placeOf_7 : decode cX10_placeOf 7 = .ok (.iload_n 3, 1) := by decide +kernel
theorem dX10_placeOf_8 : decode cX10_placeOf 8 = .ok (.iload_n 2, 1) := by decide +kernel
theorem dX10_placeOf_9 : decode cX10_placeOf 9 = .ok (.if_icmp .ge 21, 3) := by decide +kernel
theorem dX10_placeOf_12 : decode cX10_placeOf 12 = .ok (.aload_n 0, 1) := by decide +kernel
theorem dX10_placeOf_13 : decode cX10_placeOf 13 = .ok (.getfield 51, 3) := by decide +kernel
theorem dX10_placeOf_16 : decode cX10_placeOf 16 = .ok (.iload_n 3, 1) := by decide +kernel
theorem dX10_placeOf_17 : decode cX10_placeOf 17 = .ok (.iaload, 1) := by decide +kernel
theorem dX10_placeOf_18 : decode cX10_placeOf 18 = .ok (.iload_n 1, 1) := by decide +kernel
theorem dX10_placeOf_19 : decode cX10_placeOf 19 = .ok (.if_icmp .ne 5, 3) := by decide +kernel
theorem dX10_placeOf_22 : decode cX10_placeOf 22 = .ok (.iload_n 3, 1) := by decide +kernel
theorem dX10_placeOf_23 : decode cX10_placeOf 23 = .ok (.ireturn, 1) := by decide +kernel
theorem dX10_placeOf_24 : decode cX10_placeOf 24 = .ok (.iinc 3 1, 3) := by decide +kernel
theorem dX10_placeOf_27 : decode cX10_placeOf 27 = .ok (.goto (-20), 3) := by decide +kernel
theorem dX10_placeOf_30 : decode cX10_placeOf 30 = .ok (.bipush (-2), 2) := by decide +kernel
theorem dX10_placeOf_32 : decode cX10_placeOf 32 = .ok (.ireturn, 1) := by decide +kernel
theorem dX10_firstNow_0 : decode cX10_firstNow 0 = .ok (.aload_n 0, 1) := by decide +kernel
theorem dX10_firstNow_1 : decode cX10_firstNow 1 = .ok (.invokevirtual 219, 3) := by decide +kernel
theorem dX10_firstNow_4 : decode cX10_firstNow 4 = .ok (.ifCond .ne 8, 3) := by decide +kernel
theorem dX10_firstNow_7 : decode cX10_firstNow 7 = .ok (.bipush (-2), 2) := by decide +kernel
theorem dX10_firstNow_9 : decode cX10_firstNow 9 = .ok (.goto 9, 3) := by decide +kernel
theorem dX10_firstNow_12 : decode cX10_firstNow 12 = .ok (.aload_n 0, 1) := by decide +kernel
theorem dX10_firstNow_13 : decode cX10_firstNow 13 = .ok (.getfield 51, 3) := by decide +kernel
theorem dX10_firstNow_16 : decode cX10_firstNow 16 = .ok (.iconst 0, 1) := by decide +kernel
theorem dX10_firstNow_17 : decode cX10_firstNow 17 = .ok (.iaload, 1) := by decide +kernel
theorem dX10_firstNow_18 : decode cX10_firstNow 18 = .ok (.ireturn, 1) := by decide +kernel
theorem dX10_later_0 : decode cX10_later 0 = .ok (.iload_n 1, 1) := by decide +kernel
theorem dX10_later_1 : decode cX10_later 1 = .ok (.iconst 0, 1) := by decide +kernel
theorem dX10_later_2 : decode cX10_later 2 = .ok (.bipush 60, 2) := by decide +kernel
theorem dX10_later_4 : decode cX10_later 4 = .ok (.invokestatic 106, 3) := by decide +kernel
theorem dX10_later_7 : decode cX10_later 7 = .ok (.ifCond .eq 20, 3) := by decide +kernel
theorem dX10_later_10 : decode cX10_later 10 = .ok (.aload_n 0, 1) := by decide +kernel
theorem dX10_later_11 : decode cX10_later 11 = .ok (.iload_n 2, 1) := by decide +kernel
theorem dX10_later_12 : decode cX10_later 12 = .ok (.invokevirtual 124, 3) := by decide +kernel
theorem dX10_later_15 : decode cX10_later 15 = .ok (.ifCond .eq 12, 3) := by decide +kernel
theorem dX10_later_18 : decode cX10_later 18 = .ok (.iload_n 3, 1) := by decide +kernel
theorem dX10_later_19 : decode cX10_later 19 = .ok (.iconst 0, 1) := by decide +kernel
theorem dX10_later_20 : decode cX10_later 20 = .ok (.iconst 2, 1) := by decide +kernel
theorem dX10_later_21 : decode cX10_later 21 = .ok (.invokestatic 106, 3) := by decide +kernel
theorem dX10_later_24 : decode cX10_later 24 = .ok (.ifCond .ne 5, 3) := by decide +kernel
theorem dX10_later_27 : decode cX10_later 27 = .ok (.iconst (-1), 1) := by decide +kernel
theorem dX10_later_28 : decode cX10_later 28 = .ok (.ireturn, 1) := by decide +kernel
theorem dX10_later_29 : decode cX10_later 29 = .ok (.aload_n 0, 1) := by decide +kernel
theorem dX10_later_30 : decode cX10_later 30 = .ok (.iconst 0, 1) := by decide +kernel
theorem dX10_later_31 : decode cX10_later 31 = .ok (.invokevirtual 222, 3) := by decide +kernel
theorem dX10_later_34 : decode cX10_later 34 = .ok (.aload_n 0, 1) := by decide +kernel
theorem dX10_later_35 : decode cX10_later 35 = .ok (.iload_n 1, 1) := by decide +kernel
theorem dX10_later_36 : decode cX10_later 36 = .ok (.invokevirtual 226, 3) := by decide +kernel
theorem dX10_later_39 : decode cX10_later 39 = .ok (.iload_n 3, 1) := by decide +kernel
theorem dX10_later_40 : decode cX10_later 40 = .ok (.ifCond .ne 11, 3) := by decide +kernel
theorem dX10_later_43 : decode cX10_later 43 = .ok (.aload_n 0, 1) := by decide +kernel
theorem dX10_later_44 : decode cX10_later 44 = .ok (.iload_n 2, 1) := by decide +kernel
theorem dX10_later_45 : decode cX10_later 45 = .ok (.invokevirtual 215, 3) := by decide +kernel
theorem dX10_later_48 : decode cX10_later 48 = .ok (.goto 22, 3) := by decide +kernel
theorem dX10_later_51 : decode cX10_later 51 = .ok (.iload_n 3, 1) := by decide +kernel
theorem dX10_later_52 : decode cX10_later 52 = .ok (.iconst 1, 1) := by decide +kernel
theorem dX10_later_53 : decode cX10_later 53 = .ok (.if_icmp .ne 12, 3) := by decide +kernel
theorem dX10_later_56 : decode cX10_later 56 = .ok (.aload_n 0, 1) := by decide +kernel
theorem dX10_later_57 : decode cX10_later 57 = .ok (.iload_n 2, 1) := by decide +kernel
theorem dX10_later_58 : decode cX10_later 58 = .ok (.iconst 0, 1) := by decide +kernel
theorem dX10_later_59 : decode cX10_later 59 = .ok (.invokevirtual 110, 3) := by decide +kernel
theorem dX10_later_62 : decode cX10_later 62 = .ok (.goto 8, 3) := by decide +kernel
theorem dX10_later_65 : decode cX10_later 65 = .ok (.aload_n 0, 1) := by decide +kernel
theorem dX10_later_66 : decode cX10_later 66 = .ok (.iload_n 2, 1) := by decide +kernel
theorem dX10_later_67 : decode cX10_later 67 = .ok (.invokevirtual 229, 3) := by decide +kernel
theorem dX10_later_70 : decode cX10_later 70 = .ok (.istore 4, 2) := by decide +kernel
theorem dX10_later_72 : decode cX10_later 72 = .ok (.aload_n 0, 1) := by decide +kernel
theorem dX10_later_73 : decode cX10_later 73 = .ok (.iconst 0, 1) := by decide +kernel
theorem dX10_later_74 : decode cX10_later 74 = .ok (.invokevirtual 232, 3) := by decide +kernel
theorem dX10_later_77 : decode cX10_later 77 = .ok (.iload 4, 2) := by decide +kernel
theorem dX10_later_79 : decode cX10_later 79 = .ok (.ireturn, 1) := by decide +kernel
theorem dX10_first_0 : decode cX10_first 0 = .ok (.iload_n 1, 1) := by decide +kernel
theorem dX10_first_1 : decode cX10_first 1 = .ok (.iconst 0, 1) := by decide +kernel
theorem dX10_first_2 : decode cX10_first 2 = .ok (.bipush 60, 2) := by decide +kernel
theorem dX10_first_4 : decode cX10_first 4 = .ok (.invokestatic 106, 3) := by decide +kernel
theorem dX10_first_7 : decode cX10_first 7 = .ok (.ifCond .ne 5, 3) := by decide +kernel
theorem dX10_first_10 : decode cX10_first 10 = .ok (.iconst (-1), 1) := by decide +kernel
theorem dX10_first_11 : decode cX10_first 11 = .ok (.ireturn, 1) := by decide +kernel
theorem dX10_first_12 : decode cX10_first 12 = .ok (.aload_n 0, 1) := by decide +kernel
theorem dX10_first_13 : decode cX10_first 13 = .ok (.iconst 0, 1) := by decide +kernel
theorem dX10_first_14 : decode cX10_first 14 = .ok (.invokevirtual 222, 3) := by decide +kernel
theorem dX10_first_17 : decode cX10_first 17 = .ok (.aload_n 0, 1) := by decide +kernel
theorem dX10_first_18 : decode cX10_first 18 = .ok (.iload_n 1, 1) := by decide +kernel
theorem dX10_first_19 : decode cX10_first 19 = .ok (.invokevirtual 226, 3) := by decide +kernel
theorem dX10_first_22 : decode cX10_first 22 = .ok (.aload_n 0, 1) := by decide +kernel
theorem dX10_first_23 : decode cX10_first 23 = .ok (.invokevirtual 235, 3) := by decide +kernel
theorem dX10_first_26 : decode cX10_first 26 = .ok (.istore_n 2, 1) := by decide +kernel
theorem dX10_first_27 : decode cX10_first 27 = .ok (.aload_n 0, 1) := by decide +kernel
theorem dX10_first_28 : decode cX10_first 28 = .ok (.iconst 0, 1) := by decide +kernel
theorem dX10_first_29 : decode cX10_first 29 = .ok (.invokevirtual 232, 3) := by decide +kernel
theorem dX10_first_32 : decode cX10_first 32 = .ok (.iload_n 2, 1) := by decide +kernel
theorem dX10_first_33 : decode cX10_first 33 = .ok (.ireturn, 1) := by decide +kernel
theorem dX10_peak_0 : decode cX10_peak 0 = .ok (.aload_n 0, 1) := by decide +kernel
theorem dX10_peak_1 : decode cX10_peak 1 = .ok (.iload_n 1, 1) := by decide +kernel
theorem dX10_peak_2 : decode cX10_peak 2 = .ok (.invokevirtual 124, 3) := by decide +kernel
theorem dX10_peak_5 : decode cX10_peak 5 = .ok (.ifCond .eq 12, 3) := by decide +kernel
theorem dX10_peak_8 : decode cX10_peak 8 = .ok (.iload_n 2, 1) := by decide +kernel
theorem dX10_peak_9 : decode cX10_peak 9 = .ok (.iconst 0, 1) := by decide +kernel
theorem dX10_peak_10 : decode cX10_peak 10 = .ok (.iconst 1, 1) := by decide +kernel
theorem dX10_peak_11 : decode cX10_peak 11 = .ok (.invokestatic 106, 3) := by decide +kernel
theorem dX10_peak_14 : decode cX10_peak 14 = .ok (.ifCond .ne 5, 3) := by decide +kernel
theorem dX10_peak_17 : decode cX10_peak 17 = .ok (.iconst (-1), 1) := by decide +kernel
theorem dX10_peak_18 : decode cX10_peak 18 = .ok (.ireturn, 1) := by decide +kernel
theorem dX10_peak_19 : decode cX10_peak 19 = .ok (.aload_n 0, 1) := by decide +kernel
theorem dX10_peak_20 : decode cX10_peak 20 = .ok (.iconst 0, 1) := by decide +kernel
theorem dX10_peak_21 : decode cX10_peak 21 = .ok (.invokevirtual 222, 3) := by decide +kernel
theorem dX10_peak_24 : decode cX10_peak 24 = .ok (.iconst 0, 1) := by decide +kernel
theorem dX10_peak_25 : decode cX10_peak 25 = .ok (.istore_n 3, 1) := by decide +kernel
theorem dX10_peak_26 : decode cX10_peak 26 = .ok (.iconst (-1), 1) := by decide +kernel
theorem dX10_peak_27 : decode cX10_peak 27 = .ok (.istore 4, 2) := by decide +kernel
theorem dX10_peak_29 : decode cX10_peak 29 = .ok (.iconst 0, 1) := by decide +kernel
theorem dX10_peak_30 : decode cX10_peak 30 = .ok (.istore 5, 2) := by decide +kernel
theorem dX10_peak_32 : decode cX10_peak 32 = .ok (.iload 5, 2) := by decide +kernel
theorem dX10_peak_34 : decode cX10_peak 34 = .ok (.bipush 60, 2) := by decide +kernel
theorem dX10_peak_36 : decode cX10_peak 36 = .ok (.if_icmp .gt 44, 3) := by decide +kernel
theorem dX10_peak_39 : decode cX10_peak 39 = .ok (.aload_n 0, 1) := by decide +kernel
theorem dX10_peak_40 : decode cX10_peak 40 = .ok (.iload_n 1, 1) := by decide +kernel
theorem dX10_peak_41 : decode cX10_peak 41 = .ok (.iconst 0, 1) := by decide +kernel
theorem dX10_peak_42 : decode cX10_peak 42 = .ok (.invokevirtual 110, 3) := by decide +kernel
theorem dX10_peak_45 : decode cX10_peak 45 = .ok (.iload 4, 2) := by decide +kernel
theorem dX10_peak_47 : decode cX10_peak 47 = .ok (.if_icmp .le 8, 3) := by decide +kernel
theorem dX10_peak_50 : decode cX10_peak 50 = .ok (.iload 5, 2) := by decide +kernel
theorem dX10_peak_52 : decode cX10_peak 52 = .ok (.goto 4, 3) := by decide +kernel
theorem dX10_peak_55 : decode cX10_peak 55 = .ok (.iload_n 3, 1) := by decide +kernel
theorem dX10_peak_56 : decode cX10_peak 56 = .ok (.istore_n 3, 1) := by decide +kernel
theorem dX10_peak_57 : decode cX10_peak 57 = .ok (.aload_n 0, 1) := by decide +kernel
theorem dX10_peak_58 : decode cX10_peak 58 = .ok (.iload_n 1, 1) := by decide +kernel
theorem dX10_peak_59 : decode cX10_peak 59 = .ok (.iconst 0, 1) := by decide +kernel
theorem dX10_peak_60 : decode cX10_peak 60 = .ok (.invokevirtual 110, 3) := by decide +kernel
theorem dX10_peak_63 : decode cX10_peak 63 = .ok (.iload 4, 2) := by decide +kernel
theorem dX10_peak_65 : decode cX10_peak 65 = .ok (.invokestatic 100, 3) := by decide +kernel
theorem dX10_peak_68 : decode cX10_peak 68 = .ok (.istore 4, 2) := by decide +kernel
theorem dX10_peak_70 : decode cX10_peak 70 = .ok (.aload_n 0, 1) := by decide +kernel
theorem dX10_peak_71 : decode cX10_peak 71 = .ok (.invokevirtual 212, 3) := by decide +kernel
theorem dX10_peak_74 : decode cX10_peak 74 = .ok (.iinc 5 1, 3) := by decide +kernel
theorem dX10_peak_77 : decode cX10_peak 77 = .ok (.goto (-45), 3) := by decide +kernel
theorem dX10_peak_80 : decode cX10_peak 80 = .ok (.aload_n 0, 1) := by decide +kernel
theorem dX10_peak_81 : decode cX10_peak 81 = .ok (.iconst 0, 1) := by decide +kernel
theorem dX10_peak_82 : decode cX10_peak 82 = .ok (.invokevirtual 232, 3) := by decide +kernel
theorem dX10_peak_85 : decode cX10_peak 85 = .ok (.iload_n 2, 1) := by decide +kernel
theorem dX10_peak_86 : decode cX10_peak 86 = .ok (.ifCond .ne 7, 3) := by decide +kernel
theorem dX10_peak_89 : decode cX10_peak 89 = .ok (.iload_n 3, 1) := by decide +kernel
theorem dX10_peak_90 : decode cX10_peak 90 = .ok (.goto 5, 3) := by decide +kernel
theorem dX10_peak_93 : decode cX10_peak 93 = .ok (.iload 4, 2) := by decide +kernel
theorem dX10_peak_95 : decode cX10_peak 95 = .ok (.ireturn, 1) := by decide +kernel
theorem dX10_goAll_0 : decode cX10_goAll 0 = .ok (.aload_n 0, 1) := by decide +kernel
theorem dX10_goAll_1 : decode cX10_goAll 1 = .ok (.iconst 0, 1) := by decide +kernel
theorem dX10_goAll_2 : decode cX10_goAll 2 = .ok (.invokevirtual 222, 3) := by decide +kernel
theorem dX10_goAll_5 : decode cX10_goAll 5 = .ok (.aload_n 0, 1) := by decide +kernel
theorem dX10_goAll_6 : decode cX10_goAll 6 = .ok (.iload_n 1, 1) := by decide +kernel
theorem dX10_goAll_7 : decode cX10_goAll 7 = .ok (.invokevirtual 226, 3) := by decide +kernel
theorem dX10_goAll_10 : decode cX10_goAll 10 = .ok (.iconst 0, 1) := by decide +kernel
theorem dX10_goAll_11 : decode cX10_goAll 11 = .ok (.istore_n 3, 1) := by decide +kernel
theorem dX10_goAll_12 : decode cX10_goAll 12 = .ok (.aload_n 0, 1) := by decide +kernel
theorem dX10_goAll_13 : decode cX10_goAll 13 = .ok (.iconst 0, 1) := by decide +kernel
theorem dX10_goAll_14 : decode cX10_goAll 14 = .ok (.putfield 238, 3) := by decide +kernel
theorem dX10_goAll_17 : decode cX10_goAll 17 = .ok (.aload_n 0, 1) := by decide +kernel
theorem dX10_goAll_18 : decode cX10_goAll 18 = .ok (.invokevirtual 219, 3) := by decide +kernel
theorem dX10_goAll_21 : decode cX10_goAll 21 = .ok (.istore 4, 2) := by decide +kernel
theorem dX10_goAll_23 : decode cX10_goAll 23 = .ok (.iload 4, 2) := by decide +kernel
theorem dX10_goAll_25 : decode cX10_goAll 25 = .ok (.ifCond .le 84, 3) := by decide +kernel
theorem dX10_goAll_28 : decode cX10_goAll 28 = .ok (.aload_n 0, 1) := by decide +kernel
theorem dX10_goAll_29 : decode cX10_goAll 29 = .ok (.getfield 51, 3) := by decide +kernel
theorem dX10_goAll_32 : decode cX10_goAll 32 = .ok (.iconst 0, 1) := by decide +kernel
theorem dX10_goAll_33 : decode cX10_goAll 33 = .ok (.iaload, 1) := by decide +kernel
theorem dX10_goAll_34 : decode cX10_goAll 34 = .ok (.iload_n 2, 1) := by decide +kernel
theorem dX10_goAll_35 : decode cX10_goAll 35 = .ok (.if_icmp .ne 18, 3) := by decide +kernel
theorem dX10_goAll_38 : decode cX10_goAll 38 = .ok (.iload 4, 2) := by decide +kernel
theorem dX10_goAll_40 : decode cX10_goAll 40 = .ok (.iconst 1, 1) := by decide +kernel
theorem dX10_goAll_41 : decode cX10_goAll 41 = .ok (.if_icmp .le 12, 3) := by decide +kernel
theorem dX10_goAll_44 : decode cX10_goAll 44 = .ok (.aload_n 0, 1) := by decide +kernel
theorem dX10_goAll_45 : decode cX10_goAll 45 = .ok (.getfield 51, 3) := by decide +kernel
theorem dX10_goAll_48 : decode cX10_goAll 48 = .ok (.iconst 1, 1) := by decide +kernel
theorem dX10_goAll_49 : decode cX10_goAll 49 = .ok (.iaload, 1) := by decide +kernel
theorem dX10_goAll_50 : decode cX10_goAll 50 = .ok (.goto 9, 3) := by decide +kernel
theorem dX10_goAll_53 : decode cX10_goAll 53 = .ok (.aload_n 0, 1) := by decide +kernel
theorem dX10_goAll_54 : decode cX10_goAll 54 = .ok (.getfield 51, 3) := by decide +kernel
theorem dX10_goAll_57 : decode cX10_goAll 57 = .ok (.iconst 0, 1) := by decide +kernel
theorem dX10_goAll_58 : decode cX10_goAll 58 = .ok (.iaload, 1) := by decide +kernel
theorem dX10_goAll_59 : decode cX10_goAll 59 = .ok (.istore 5, 2) := by decide +kernel
theorem dX10_goAll_61 : decode cX10_goAll 61 = .ok (.aload_n 0, 1) := by decide +kernel
theorem dX10_goAll_62 : decode cX10_goAll 62 = .ok (.getfield 57, 3) := by decide +kernel
theorem dX10_goAll_65 : decode cX10_goAll 65 = .ok (.iload_n 3, 1) := by decide +kernel
theorem dX10_goAll_66 : decode cX10_goAll 66 = .ok (.iload 5, 2) := by decide +kernel
theorem dX10_goAll_68 : decode cX10_goAll 68 = .ok (.iastore, 1) := by decide +kernel
theorem dX10_goAll_69 : decode cX10_goAll 69 = .ok (.iinc 3 1, 3) := by decide +kernel
theorem dX10_goAll_72 : decode cX10_goAll 72 = .ok (.aload_n 0, 1) := by decide +kernel
theorem dX10_goAll_73 : decode cX10_goAll 73 = .ok (.dup, 1) := by decide +kernel
theorem dX10_goAll_74 : decode cX10_goAll 74 = .ok (.getfield 238, 3) := by decide +kernel
theorem dX10_goAll_77 : decode cX10_goAll 77 = .ok (.aload_n 0, 1) := by decide +kernel
theorem dX10_goAll_78 : decode cX10_goAll 78 = .ok (.iload 5, 2) := by decide +kernel
theorem dX10_goAll_80 : decode cX10_goAll 80 = .ok (.iconst 0, 1) := by decide +kernel
theorem dX10_goAll_81 : decode cX10_goAll 81 = .ok (.invokevirtual 110, 3) := by decide +kernel
theorem dX10_goAll_84 : decode cX10_goAll 84 = .ok (.iadd, 1) := by decide +kernel
theorem dX10_goAll_85 : decode cX10_goAll 85 = .ok (.putfield 238, 3) := by decide +kernel
theorem dX10_goAll_88 : decode cX10_goAll 88 = .ok (.aload_n 0, 1) := by decide +kernel
theorem dX10_goAll_89 : decode cX10_goAll 89 = .ok (.iload 5, 2) := by decide +kernel
theorem dX10_goAll_91 : decode cX10_goAll 91 = .ok (.iconst 5, 1) := by decide +kernel
theorem dX10_goAll_92 : decode cX10_goAll 92 = .ok (.iconst 1, 1) := by decide +kernel
theorem dX10_goAll_93 : decode cX10_goAll 93 = .ok (.invokevirtual 113, 3) := by decide +kernel
theorem dX10_goAll_96 : decode cX10_goAll 96 = .ok (.aload_n 0, 1) := by decide +kernel
theorem dX10_goAll_97 : decode cX10_goAll 97 = .ok (.invokevirtual 212, 3) := by decide +kernel
theorem dX10_goAll_100 : decode cX10_goAll 100 = .ok (.aload_n 0, 1) := by decide +kernel
theorem dX10_goAll_101 : decode cX10_goAll 101 = .ok (.invokevirtual 219, 3) := by decide +kernel
theorem dX10_goAll_104 : decode cX10_goAll 104 = .ok (.istore 4, 2) := by decide +kernel
theorem dX10_goAll_106 : decode cX10_goAll 106 = .ok (.goto (-83), 3) := by decide +kernel
theorem dX10_goAll_109 : decode cX10_goAll 109 = .ok (.aload_n 0, 1) := by decide +kernel
theorem dX10_goAll_110 : decode cX10_goAll 110 = .ok (.iconst 0, 1) := by decide +kernel
theorem dX10_goAll_111 : decode cX10_goAll 111 = .ok (.invokevirtual 232, 3) := by decide +kernel
theorem dX10_goAll_114 : decode cX10_goAll 114 = .ok (.iload_n 3, 1) := by decide +kernel
theorem dX10_goAll_115 : decode cX10_goAll 115 = .ok (.ireturn, 1) := by decide +kernel
theorem dX10_wentAs_0 : decode cX10_wentAs 0 = .ok (.iconst 0, 1) := by decide +kernel
theorem dX10_wentAs_1 : decode cX10_wentAs 1 = .ok (.istore_n 3, 1) := by decide +kernel
theorem dX10_wentAs_2 : decode cX10_wentAs 2 = .ok (.iload_n 3, 1) := by decide +kernel
theorem dX10_wentAs_3 : decode cX10_wentAs 3 = .ok (.iload_n 2, 1) := by decide +kernel
theorem dX10_wentAs_4 : decode cX10_wentAs 4 = .ok (.if_icmp .ge 21, 3) := by decide +kernel
theorem dX10_wentAs_7 : decode cX10_wentAs 7 = .ok (.aload_n 0, 1) := by decide +kernel
theorem dX10_wentAs_8 : decode cX10_wentAs 8 = .ok (.getfield 57, 3) := by decide +kernel
theorem dX10_wentAs_11 : decode cX10_wentAs 11 = .ok (.iload_n 3, 1) := by decide +kernel
theorem dX10_wentAs_12 : decode cX10_wentAs 12 = .ok (.iaload, 1) := by decide +kernel
theorem dX10_wentAs_13 : decode cX10_wentAs 13 = .ok (.iload_n 1, 1) := by decide +kernel
theorem dX10_wentAs_14 : decode cX10_wentAs 14 = .ok (.if_icmp .ne 5, 3) := by decide +kernel
theorem dX10_wentAs_17 : decode cX10_wentAs 17 = .ok (.iload_n 3, 1) := by decide +kernel
theorem dX10_wentAs_18 : decode cX10_wentAs 18 = .ok (.ireturn, 1) := by decide +kernel
theorem dX10_wentAs_19 : decode cX10_wentAs 19 = .ok (.iinc 3 1, 3) := by decide +kernel
theorem dX10_wentAs_22 : decode cX10_wentAs 22 = .ok (.goto (-20), 3) := by decide +kernel
theorem dX10_wentAs_25 : decode cX10_wentAs 25 = .ok (.bipush (-2), 2) := by decide +kernel
theorem dX10_wentAs_27 : decode cX10_wentAs 27 = .ok (.ireturn, 1) := by decide +kernel
theorem dX10_goesAs_0 : decode cX10_goesAs 0 = .ok (.iload_n 1, 1) := by decide +kernel
theorem dX10_goesAs_1 : decode cX10_goesAs 1 = .ok (.iconst 0, 1) := by decide +kernel
theorem dX10_goesAs_2 : decode cX10_goesAs 2 = .ok (.bipush 60, 2) := by decide +kernel
theorem dX10_goesAs_4 : decode cX10_goesAs 4 = .ok (.invokestatic 106, 3) := by decide +kernel
theorem dX10_goesAs_7 : decode cX10_goesAs 7 = .ok (.ifCond .eq 7, 3) := by decide +kernel
theorem dX10_goesAs_10 : decode cX10_goesAs 10 = .ok (.iload_n 2, 1) := by decide +kernel
theorem dX10_goesAs_11 : decode cX10_goesAs 11 = .ok (.ifCond .ge 5, 3) := by decide +kernel
theorem dX10_goesAs_14 : decode cX10_goesAs 14 = .ok (.iconst (-1), 1) := by decide +kernel
theorem dX10_goesAs_15 : decode cX10_goesAs 15 = .ok (.ireturn, 1) := by decide +kernel
theorem dX10_goesAs_16 : decode cX10_goesAs 16 = .ok (.iload_n 2, 1) := by decide +kernel
theorem dX10_goesAs_17 : decode cX10_goesAs 17 = .ok (.aload_n 0, 1) := by decide +kernel
theorem dX10_goesAs_18 : decode cX10_goesAs 18 = .ok (.iload_n 1, 1) := by decide +kernel
theorem dX10_goesAs_19 : decode cX10_goesAs 19 = .ok (.iconst (-1), 1) := by decide +kernel
theorem dX10_goesAs_20 : decode cX10_goesAs 20 = .ok (.invokevirtual 241, 3) := by decide +kernel
theorem dX10_goesAs_23 : decode cX10_goesAs 23 = .ok (.if_icmp .ge 12, 3) := by decide +kernel
theorem dX10_goesAs_26 : decode cX10_goesAs 26 = .ok (.aload_n 0, 1) := by decide +kernel
theorem dX10_goesAs_27 : decode cX10_goesAs 27 = .ok (.getfield 57, 3) := by decide +kernel
theorem dX10_goesAs_30 : decode cX10_goesAs 30 = .ok (.iload_n 2, 1) := by decide +kernel
theorem dX10_goesAs_31 : decode cX10_goesAs 31 = .ok (.iaload, 1) := by decide +kernel
theorem dX10_goesAs_32 : decode cX10_goesAs 32 = .ok (.goto 5, 3) := by decide +kernel
theorem dX10_goesAs_35 : decode cX10_goesAs 35 = .ok (.bipush (-2), 2) := by decide +kernel
theorem dX10_goesAs_37 : decode cX10_goesAs 37 = .ok (.ireturn, 1) := by decide +kernel
theorem dX10_goesWhen_0 : decode cX10_goesWhen 0 = .ok (.iload_n 1, 1) := by decide +kernel
theorem dX10_goesWhen_1 : decode cX10_goesWhen 1 = .ok (.iconst 0, 1) := by decide +kernel
theorem dX10_goesWhen_2 : decode cX10_goesWhen 2 = .ok (.bipush 60, 2) := by decide +kernel
theorem dX10_goesWhen_4 : decode cX10_goesWhen 4 = .ok (.invokestatic 106, 3) := by decide +kernel
theorem dX10_goesWhen_7 : decode cX10_goesWhen 7 = .ok (.ifCond .eq 11, 3) := by decide +kernel
theorem dX10_goesWhen_10 : decode cX10_goesWhen 10 = .ok (.aload_n 0, 1) := by decide +kernel
theorem dX10_goesWhen_11 : decode cX10_goesWhen 11 = .ok (.iload_n 2, 1) := by decide +kernel
theorem dX10_goesWhen_12 : decode cX10_goesWhen 12 = .ok (.invokevirtual 124, 3) := by decide +kernel
theorem dX10_goesWhen_15 : decode cX10_goesWhen 15 = .ok (.ifCond .ne 5, 3) := by decide +kernel
theorem dX10_goesWhen_18 : decode cX10_goesWhen 18 = .ok (.iconst (-1), 1) := by decide +kernel
theorem dX10_goesWhen_19 : decode cX10_goesWhen 19 = .ok (.ireturn, 1) := by decide +kernel
theorem dX10_goesWhen_20 : decode cX10_goesWhen 20 = .ok (.aload_n 0, 1) := by decide +kernel
theorem dX10_goesWhen_21 : decode cX10_goesWhen 21 = .ok (.iload_n 2, 1) := by decide +kernel
theorem dX10_goesWhen_22 : decode cX10_goesWhen 22 = .ok (.aload_n 0, 1) := by decide +kernel
theorem dX10_goesWhen_23 : decode cX10_goesWhen 23 = .ok (.iload_n 1, 1) := by decide +kernel
theorem dX10_goesWhen_24 : decode cX10_goesWhen 24 = .ok (.iconst (-1), 1) := by decide +kernel
theorem dX10_goesWhen_25 : decode cX10_goesWhen 25 = .ok (.invokevirtual 241, 3) := by decide +kernel
theorem dX10_goesWhen_28 : decode cX10_goesWhen 28 = .ok (.invokevirtual 244, 3) := by decide +kernel
theorem dX10_goesWhen_31 : decode cX10_goesWhen 31 = .ok (.istore_n 3, 1) := by decide +kernel
theorem dX10_goesWhen_32 : decode cX10_goesWhen 32 = .ok (.iload_n 3, 1) := by decide +kernel
theorem dX10_goesWhen_33 : decode cX10_goesWhen 33 = .ok (.bipush (-2), 2) := by decide +kernel
theorem dX10_goesWhen_35 : decode cX10_goesWhen 35 = .ok (.if_icmp .ne 8, 3) := by decide +kernel
theorem dX10_goesWhen_38 : decode cX10_goesWhen 38 = .ok (.bipush (-2), 2) := by decide +kernel
theorem dX10_goesWhen_40 : decode cX10_goesWhen 40 = .ok (.goto 6, 3) := by decide +kernel
theorem dX10_goesWhen_43 : decode cX10_goesWhen 43 = .ok (.iload_n 1, 1) := by decide +kernel
theorem dX10_goesWhen_44 : decode cX10_goesWhen 44 = .ok (.iload_n 3, 1) := by decide +kernel
theorem dX10_goesWhen_45 : decode cX10_goesWhen 45 = .ok (.iadd, 1) := by decide +kernel
theorem dX10_goesWhen_46 : decode cX10_goesWhen 46 = .ok (.ireturn, 1) := by decide +kernel
theorem dX10_waits_0 : decode cX10_waits 0 = .ok (.iload_n 1, 1) := by decide +kernel
theorem dX10_waits_1 : decode cX10_waits 1 = .ok (.iconst 0, 1) := by decide +kernel
theorem dX10_waits_2 : decode cX10_waits 2 = .ok (.bipush 60, 2) := by decide +kernel
theorem dX10_waits_4 : decode cX10_waits 4 = .ok (.invokestatic 106, 3) := by decide +kernel
theorem dX10_waits_7 : decode cX10_waits 7 = .ok (.ifCond .ne 5, 3) := by decide +kernel
theorem dX10_waits_10 : decode cX10_waits 10 = .ok (.iconst (-1), 1) := by decide +kernel
theorem dX10_waits_11 : decode cX10_waits 11 = .ok (.ireturn, 1) := by decide +kernel
theorem dX10_waits_12 : decode cX10_waits 12 = .ok (.iconst 0, 1) := by decide +kernel
theorem dX10_waits_13 : decode cX10_waits 13 = .ok (.istore_n 2, 1) := by decide +kernel
theorem dX10_waits_14 : decode cX10_waits 14 = .ok (.aload_n 0, 1) := by decide +kernel
theorem dX10_waits_15 : decode cX10_waits 15 = .ok (.invokevirtual 203, 3) := by decide +kernel
theorem dX10_waits_18 : decode cX10_waits 18 = .ok (.iconst 1, 1) := by decide +kernel
theorem dX10_waits_19 : decode cX10_waits 19 = .ok (.isub, 1) := by decide +kernel
theorem dX10_waits_20 : decode cX10_waits 20 = .ok (.istore_n 3, 1) := by decide +kernel
theorem dX10_waits_21 : decode cX10_waits 21 = .ok (.iload_n 3, 1) := by decide +kernel
theorem dX10_waits_22 : decode cX10_waits 22 = .ok (.ifCond .lt 15, 3) := by decide +kernel
theorem dX10_waits_25 : decode cX10_waits 25 = .ok (.iload_n 2, 1) := by decide +kernel
theorem dX10_waits_26 : decode cX10_waits 26 = .ok (.iload_n 1, 1) := by decide +kernel
theorem dX10_waits_27 : decode cX10_waits 27 = .ok (.iload_n 3, 1) := by decide +kernel
theorem dX10_waits_28 : decode cX10_waits 28 = .ok (.iadd, 1) := by decide +kernel
theorem dX10_waits_29 : decode cX10_waits 29 = .ok (.iadd, 1) := by decide +kernel
theorem dX10_waits_30 : decode cX10_waits 30 = .ok (.istore_n 2, 1) := by decide +kernel
theorem dX10_waits_31 : decode cX10_waits 31 = .ok (.iinc 3 (-1), 3) := by decide +kernel
theorem dX10_waits_34 : decode cX10_waits 34 = .ok (.goto (-13), 3) := by decide +kernel
theorem dX10_waits_37 : decode cX10_waits 37 = .ok (.iload_n 2, 1) := by decide +kernel
theorem dX10_waits_38 : decode cX10_waits 38 = .ok (.ireturn, 1) := by decide +kernel
theorem dX10_sorry_0 : decode cX10_sorry 0 = .ok (.aload_n 0, 1) := by decide +kernel
theorem dX10_sorry_1 : decode cX10_sorry 1 = .ok (.iload_n 1, 1) := by decide +kernel
theorem dX10_sorry_2 : decode cX10_sorry 2 = .ok (.invokevirtual 124, 3) := by decide +kernel
theorem dX10_sorry_5 : decode cX10_sorry 5 = .ok (.ifCond .eq 13, 3) := by decide +kernel
theorem dX10_sorry_8 : decode cX10_sorry 8 = .ok (.iload_n 2, 1) := by decide +kernel
theorem dX10_sorry_9 : decode cX10_sorry 9 = .ok (.iconst 0, 1) := by decide +kernel
theorem dX10_sorry_10 : decode cX10_sorry 10 = .ok (.bipush 8, 2) := by decide +kernel
theorem dX10_sorry_12 : decode cX10_sorry 12 = .ok (.invokestatic 106, 3) := by decide +kernel
theorem dX10_sorry_15 : decode cX10_sorry 15 = .ok (.ifCond .ne 5, 3) := by decide +kernel
theorem dX10_sorry_18 : decode cX10_sorry 18 = .ok (.iconst (-1), 1) := by decide +kernel
theorem dX10_sorry_19 : decode cX10_sorry 19 = .ok (.ireturn, 1) := by decide +kernel
theorem dX10_sorry_20 : decode cX10_sorry 20 = .ok (.aload_n 0, 1) := by decide +kernel
theorem dX10_sorry_21 : decode cX10_sorry 21 = .ok (.iload_n 1, 1) := by decide +kernel
theorem dX10_sorry_22 : decode cX10_sorry 22 = .ok (.iconst 2, 1) := by decide +kernel
theorem dX10_sorry_23 : decode cX10_sorry 23 = .ok (.invokevirtual 110, 3) := by decide +kernel
theorem dX10_sorry_26 : decode cX10_sorry 26 = .ok (.istore_n 3, 1) := by decide +kernel
theorem dX10_sorry_27 : decode cX10_sorry 27 = .ok (.bipush (-2), 2) := by decide +kernel
theorem dX10_sorry_29 : decode cX10_sorry 29 = .ok (.istore 4, 2) := by decide +kernel
theorem dX10_sorry_31 : decode cX10_sorry 31 = .ok (.iconst 0, 1) := by decide +kernel
theorem dX10_sorry_32 : decode cX10_sorry 32 = .ok (.istore 5, 2) := by decide +kernel
theorem dX10_sorry_34 : decode cX10_sorry 34 = .ok (.iload 5, 2) := by decide +kernel
theorem dX10_sorry_36 : decode cX10_sorry 36 = .ok (.bipush 10, 2) := by decide +kernel
theorem dX10_sorry_38 : decode cX10_sorry 38 = .ok (.if_icmp .ge 56, 3) := by decide +kernel
theorem dX10_sorry_41 : decode cX10_sorry 41 = .ok (.iload 4, 2) := by decide +kernel
theorem dX10_sorry_43 : decode cX10_sorry 43 = .ok (.bipush (-2), 2) := by decide +kernel
theorem dX10_sorry_45 : decode cX10_sorry 45 = .ok (.if_icmp .ne 49, 3) := by decide +kernel
theorem dX10_sorry_48 : decode cX10_sorry 48 = .ok (.aload_n 0, 1) := by decide +kernel
theorem dX10_sorry_49 : decode cX10_sorry 49 = .ok (.iload_n 1, 1) := by decide +kernel
theorem dX10_sorry_50 : decode cX10_sorry 50 = .ok (.invokevirtual 197, 3) := by decide +kernel
theorem dX10_sorry_53 : decode cX10_sorry 53 = .ok (.ifCond .eq 41, 3) := by decide +kernel
theorem dX10_sorry_56 : decode cX10_sorry 56 = .ok (.aload_n 0, 1) := by decide +kernel
theorem dX10_sorry_57 : decode cX10_sorry 57 = .ok (.iload_n 1, 1) := by decide +kernel
theorem dX10_sorry_58 : decode cX10_sorry 58 = .ok (.iconst 2, 1) := by decide +kernel
theorem dX10_sorry_59 : decode cX10_sorry 59 = .ok (.iload 5, 2) := by decide +kernel
theorem dX10_sorry_61 : decode cX10_sorry 61 = .ok (.invokevirtual 113, 3) := by decide +kernel
theorem dX10_sorry_64 : decode cX10_sorry 64 = .ok (.aload_n 0, 1) := by decide +kernel
theorem dX10_sorry_65 : decode cX10_sorry 65 = .ok (.iload_n 1, 1) := by decide +kernel
theorem dX10_sorry_66 : decode cX10_sorry 66 = .ok (.aload_n 0, 1) := by decide +kernel
theorem dX10_sorry_67 : decode cX10_sorry 67 = .ok (.iconst 0, 1) := by decide +kernel
theorem dX10_sorry_68 : decode cX10_sorry 68 = .ok (.iconst (-1), 1) := by decide +kernel
theorem dX10_sorry_69 : decode cX10_sorry 69 = .ok (.invokevirtual 241, 3) := by decide +kernel
theorem dX10_sorry_72 : decode cX10_sorry 72 = .ok (.invokevirtual 244, 3) := by decide +kernel
theorem dX10_sorry_75 : decode cX10_sorry 75 = .ok (.iload_n 2, 1) := by decide +kernel
theorem dX10_sorry_76 : decode cX10_sorry 76 = .ok (.if_icmp .gt 8, 3) := by decide +kernel
theorem dX10_sorry_79 : decode cX10_sorry 79 = .ok (.iload 5, 2) := by decide +kernel
theorem dX10_sorry_81 : decode cX10_sorry 81 = .ok (.goto 5, 3) := by decide +kernel
theorem dX10_sorry_84 : decode cX10_sorry 84 = .ok (.bipush (-2), 2) := by decide +kernel
theorem dX10_sorry_86 : decode cX10_sorry 86 = .ok (.istore 4, 2) := by decide +kernel
theorem dX10_sorry_88 : decode cX10_sorry 88 = .ok (.iinc 5 1, 3) := by decide +kernel
theorem dX10_sorry_91 : decode cX10_sorry 91 = .ok (.goto (-57), 3) := by decide +kernel
theorem dX10_sorry_94 : decode cX10_sorry 94 = .ok (.aload_n 0, 1) := by decide +kernel
theorem dX10_sorry_95 : decode cX10_sorry 95 = .ok (.iload_n 1, 1) := by decide +kernel
theorem dX10_sorry_96 : decode cX10_sorry 96 = .ok (.iconst 2, 1) := by decide +kernel
theorem dX10_sorry_97 : decode cX10_sorry 97 = .ok (.iload_n 3, 1) := by decide +kernel
theorem dX10_sorry_98 : decode cX10_sorry 98 = .ok (.invokevirtual 113, 3) := by decide +kernel
theorem dX10_sorry_101 : decode cX10_sorry 101 = .ok (.iload 4, 2) := by decide +kernel
theorem dX10_sorry_103 : decode cX10_sorry 103 = .ok (.ireturn, 1) := by decide +kernel
theorem dX10_slipWhen_0 : decode cX10_slipWhen 0 = .ok (.aload_n 0, 1) := by decide +kernel
theorem dX10_slipWhen_1 : decode cX10_slipWhen 1 = .ok (.iload_n 1, 1) := by decide +kernel
theorem dX10_slipWhen_2 : decode cX10_slipWhen 2 = .ok (.invokevirtual 124, 3) := by decide +kernel
theorem dX10_slipWhen_5 : decode cX10_slipWhen 5 = .ok (.ifCond .eq 33, 3) := by decide +kernel
theorem dX10_slipWhen_8 : decode cX10_slipWhen 8 = .ok (.iload_n 2, 1) := by decide +kernel
theorem dX10_slipWhen_9 : decode cX10_slipWhen 9 = .ok (.bipush 100, 2) := by decide +kernel
theorem dX10_slipWhen_11 : decode cX10_slipWhen 11 = .ok (.sipush 3030, 3) := by decide +kernel
theorem dX10_slipWhen_14 : decode cX10_slipWhen 14 = .ok (.invokestatic 106, 3) := by decide +kernel
theorem dX10_slipWhen_17 : decode cX10_slipWhen 17 = .ok (.ifCond .eq 21, 3) := by decide +kernel
theorem dX10_slipWhen_20 : decode cX10_slipWhen 20 = .ok (.iload_n 2, 1) := by decide +kernel
theorem dX10_slipWhen_21 : decode cX10_slipWhen 21 = .ok (.bipush 100, 2) := by decide +kernel
theorem dX10_slipWhen_23 : decode cX10_slipWhen 23 = .ok (.irem, 1) := by decide +kernel
theorem dX10_slipWhen_24 : decode cX10_slipWhen 24 = .ok (.bipush 30, 2) := by decide +kernel
theorem dX10_slipWhen_26 : decode cX10_slipWhen 26 = .ok (.if_icmp .gt 12, 3) := by decide +kernel
theorem dX10_slipWhen_29 : decode cX10_slipWhen 29 = .ok (.iload_n 3, 1) := by decide +kernel
theorem dX10_slipWhen_30 : decode cX10_slipWhen 30 = .ok (.iconst 0, 1) := by decide +kernel
theorem dX10_slipWhen_31 : decode cX10_slipWhen 31 = .ok (.iconst 1, 1) := by decide +kernel
theorem dX10_slipWhen_32 : decode cX10_slipWhen 32 = .ok (.invokestatic 106, 3) := by decide +kernel
theorem dX10_slipWhen_35 : decode cX10_slipWhen 35 = .ok (.ifCond .ne 5, 3) := by decide +kernel
theorem dX10_slipWhen_38 : decode cX10_slipWhen 38 = .ok (.iconst (-1), 1) := by decide +kernel
theorem dX10_slipWhen_39 : decode cX10_slipWhen 39 = .ok (.ireturn, 1) := by decide +kernel
theorem dX10_slipWhen_40 : decode cX10_slipWhen 40 = .ok (.aload_n 0, 1) := by decide +kernel
theorem dX10_slipWhen_41 : decode cX10_slipWhen 41 = .ok (.iload_n 1, 1) := by decide +kernel
theorem dX10_slipWhen_42 : decode cX10_slipWhen 42 = .ok (.invokevirtual 197, 3) := by decide +kernel
theorem dX10_slipWhen_45 : decode cX10_slipWhen 45 = .ok (.ifCond .ne 6, 3) := by decide +kernel
theorem dX10_slipWhen_48 : decode cX10_slipWhen 48 = .ok (.bipush (-5), 2) := by decide +kernel
theorem dX10_slipWhen_50 : decode cX10_slipWhen 50 = .ok (.ireturn, 1) := by decide +kernel
theorem dX10_slipWhen_51 : decode cX10_slipWhen 51 = .ok (.iconst 0, 1) := by decide +kernel
theorem dX10_slipWhen_52 : decode cX10_slipWhen 52 = .ok (.istore 4, 2) := by decide +kernel
theorem dX10_slipWhen_54 : decode cX10_slipWhen 54 = .ok (.bipush 9, 2) := by decide +kernel
theorem dX10_slipWhen_56 : decode cX10_slipWhen 56 = .ok (.istore 5, 2) := by decide +kernel
theorem dX10_slipWhen_58 : decode cX10_slipWhen 58 = .ok (.aload_n 0, 1) := by decide +kernel
theorem dX10_slipWhen_59 : decode cX10_slipWhen 59 = .ok (.iload_n 1, 1) := by decide +kernel
theorem dX10_slipWhen_60 : decode cX10_slipWhen 60 = .ok (.putfield 47, 3) := by decide +kernel
theorem dX10_slipWhen_63 : decode cX10_slipWhen 63 = .ok (.aload_n 0, 1) := by decide +kernel
theorem dX10_slipWhen_64 : decode cX10_slipWhen 64 = .ok (.iload_n 2, 1) := by decide +kernel
theorem dX10_slipWhen_65 : decode cX10_slipWhen 65 = .ok (.bipush 100, 2) := by decide +kernel
theorem dX10_slipWhen_67 : decode cX10_slipWhen 67 = .ok (.idiv, 1) := by decide +kernel
theorem dX10_slipWhen_68 : decode cX10_slipWhen 68 = .ok (.putfield 209, 3) := by decide +kernel
theorem dX10_slipWhen_71 : decode cX10_slipWhen 71 = .ok (.iconst 0, 1) := by decide +kernel
theorem dX10_slipWhen_72 : decode cX10_slipWhen 72 = .ok (.istore 6, 2) := by decide +kernel
theorem dX10_slipWhen_74 : decode cX10_slipWhen 74 = .ok (.iload 6, 2) := by decide +kernel
theorem dX10_slipWhen_76 : decode cX10_slipWhen 76 = .ok (.bipush 30, 2) := by decide +kernel
theorem dX10_slipWhen_78 : decode cX10_slipWhen 78 = .ok (.if_icmp .gt 64, 3) := by decide +kernel
theorem dX10_slipWhen_81 : decode cX10_slipWhen 81 = .ok (.aload_n 0, 1) := by decide +kernel
theorem dX10_slipWhen_82 : decode cX10_slipWhen 82 = .ok (.aload_n 0, 1) := by decide +kernel
theorem dX10_slipWhen_83 : decode cX10_slipWhen 83 = .ok (.getfield 7, 3) := by decide +kernel
theorem dX10_slipWhen_86 : decode cX10_slipWhen 86 = .ok (.bipush 93, 2) := by decide +kernel
theorem dX10_slipWhen_88 : decode cX10_slipWhen 88 = .ok (.iaload, 1) := by decide +kernel
theorem dX10_slipWhen_89 : decode cX10_slipWhen 89 = .ok (.iload 6, 2) := by decide +kernel
theorem dX10_slipWhen_91 : decode cX10_slipWhen 91 = .ok (.iadd, 1) := by decide +kernel
theorem dX10_slipWhen_92 : decode cX10_slipWhen 92 = .ok (.putfield 206, 3) := by decide +kernel
theorem dX10_slipWhen_95 : decode cX10_slipWhen 95 = .ok (.aload_n 0, 1) := by decide +kernel
theorem dX10_slipWhen_96 : decode cX10_slipWhen 96 = .ok (.iload_n 1, 1) := by decide +kernel
theorem dX10_slipWhen_97 : decode cX10_slipWhen 97 = .ok (.aload_n 0, 1) := by decide +kernel
theorem dX10_slipWhen_98 : decode cX10_slipWhen 98 = .ok (.iload_n 2, 1) := by decide +kernel
theorem dX10_slipWhen_99 : decode cX10_slipWhen 99 = .ok (.bipush 100, 2) := by decide +kernel
theorem dX10_slipWhen_101 : decode cX10_slipWhen 101 = .ok (.irem, 1) := by decide +kernel
theorem dX10_slipWhen_102 : decode cX10_slipWhen 102 = .ok (.iconst (-1), 1) := by decide +kernel
theorem dX10_slipWhen_103 : decode cX10_slipWhen 103 = .ok (.invokevirtual 241, 3) := by decide +kernel
theorem dX10_slipWhen_106 : decode cX10_slipWhen 106 = .ok (.invokevirtual 244, 3) := by decide +kernel
theorem dX10_slipWhen_109 : decode cX10_slipWhen 109 = .ok (.istore 7, 2) := by decide +kernel
theorem dX10_slipWhen_111 : decode cX10_slipWhen 111 = .ok (.iload 7, 2) := by decide +kernel
theorem dX10_slipWhen_113 : decode cX10_slipWhen 113 = .ok (.iload 5, 2) := by decide +kernel
theorem dX10_slipWhen_115 : decode cX10_slipWhen 115 = .ok (.if_icmp .ge 8, 3) := by decide +kernel
theorem dX10_slipWhen_118 : decode cX10_slipWhen 118 = .ok (.iload 6, 2) := by decide +kernel
theorem dX10_slipWhen_120 : decode cX10_slipWhen 120 = .ok (.goto 5, 3) := by decide +kernel
theorem dX10_slipWhen_123 : decode cX10_slipWhen 123 = .ok (.iload 4, 2) := by decide +kernel
theorem dX10_slipWhen_125 : decode cX10_slipWhen 125 = .ok (.istore 4, 2) := by decide +kernel
theorem dX10_slipWhen_127 : decode cX10_slipWhen 127 = .ok (.iload 7, 2) := by decide +kernel
theorem dX10_slipWhen_129 : decode cX10_slipWhen 129 = .ok (.iload 5, 2) := by decide +kernel
theorem dX10_slipWhen_131 : decode cX10_slipWhen 131 = .ok (.invokestatic 94, 3) := by decide +kernel
theorem dX10_slipWhen_134 : decode cX10_slipWhen 134 = .ok (.istore 5, 2) := by decide +kernel
theorem dX10_slipWhen_136 : decode cX10_slipWhen 136 = .ok (.iinc 6 1, 3) := by decide +kernel
theorem dX10_slipWhen_139 : decode cX10_slipWhen 139 = .ok (.goto (-65), 3) := by decide +kernel
theorem dX10_slipWhen_142 : decode cX10_slipWhen 142 = .ok (.aload_n 0, 1) := by decide +kernel
theorem dX10_slipWhen_143 : decode cX10_slipWhen 143 = .ok (.iconst (-1), 1) := by decide +kernel
theorem dX10_slipWhen_144 : decode cX10_slipWhen 144 = .ok (.putfield 47, 3) := by decide +kernel
theorem dX10_slipWhen_147 : decode cX10_slipWhen 147 = .ok (.iload_n 3, 1) := by decide +kernel
theorem dX10_slipWhen_148 : decode cX10_slipWhen 148 = .ok (.ifCond .ne 8, 3) := by decide +kernel
theorem dX10_slipWhen_151 : decode cX10_slipWhen 151 = .ok (.iload 4, 2) := by decide +kernel
theorem dX10_slipWhen_153 : decode cX10_slipWhen 153 = .ok (.goto 5, 3) := by decide +kernel
theorem dX10_slipWhen_156 : decode cX10_slipWhen 156 = .ok (.iload 5, 2) := by decide +kernel
theorem dX10_slipWhen_158 : decode cX10_slipWhen 158 = .ok (.ireturn, 1) := by decide +kernel
theorem dX10_held_0 : decode cX10_held 0 = .ok (.iload_n 1, 1) := by decide +kernel
theorem dX10_held_1 : decode cX10_held 1 = .ok (.iconst 0, 1) := by decide +kernel
theorem dX10_held_2 : decode cX10_held 2 = .ok (.iconst 1, 1) := by decide +kernel
theorem dX10_held_3 : decode cX10_held 3 = .ok (.invokestatic 106, 3) := by decide +kernel
theorem dX10_held_6 : decode cX10_held 6 = .ok (.ifCond .ne 5, 3) := by decide +kernel
theorem dX10_held_9 : decode cX10_held 9 = .ok (.iconst (-1), 1) := by decide +kernel
theorem dX10_held_10 : decode cX10_held 10 = .ok (.ireturn, 1) := by decide +kernel
theorem dX10_held_11 : decode cX10_held 11 = .ok (.aload_n 0, 1) := by decide +kernel
theorem dX10_held_12 : decode cX10_held 12 = .ok (.iconst 0, 1) := by decide +kernel
theorem dX10_held_13 : decode cX10_held 13 = .ok (.iconst (-1), 1) := by decide +kernel
theorem dX10_held_14 : decode cX10_held 14 = .ok (.invokevirtual 241, 3) := by decide +kernel
theorem dX10_held_17 : decode cX10_held 17 = .ok (.pop, 1) := by decide +kernel
theorem dX10_held_18 : decode cX10_held 18 = .ok (.bipush 9, 2) := by decide +kernel
theorem dX10_held_20 : decode cX10_held 20 = .ok (.istore_n 2, 1) := by decide +kernel
theorem dX10_held_21 : decode cX10_held 21 = .ok (.aload_n 0, 1) := by decide +kernel
theorem dX10_held_22 : decode cX10_held 22 = .ok (.getfield 238, 3) := by decide +kernel
theorem dX10_held_25 : decode cX10_held 25 = .ok (.istore_n 3, 1) := by decide +kernel
theorem dX10_held_26 : decode cX10_held 26 = .ok (.iconst 0, 1) := by decide +kernel
theorem dX10_held_27 : decode cX10_held 27 = .ok (.istore 4, 2) := by decide +kernel
theorem dX10_held_29 : decode cX10_held 29 = .ok (.iload 4, 2) := by decide +kernel
theorem dX10_held_31 : decode cX10_held 31 = .ok (.aload_n 0, 1) := by decide +kernel
theorem dX10_held_32 : decode cX10_held 32 = .ok (.getfield 103, 3) := by decide +kernel
theorem dX10_held_35 : decode cX10_held 35 = .ok (.if_icmp .ge 50, 3) := by decide +kernel
theorem dX10_held_38 : decode cX10_held 38 = .ok (.aload_n 0, 1) := by decide +kernel
theorem dX10_held_39 : decode cX10_held 39 = .ok (.iload 4, 2) := by decide +kernel
theorem dX10_held_41 : decode cX10_held 41 = .ok (.invokevirtual 197, 3) := by decide +kernel
theorem dX10_held_44 : decode cX10_held 44 = .ok (.ifCond .eq 35, 3) := by decide +kernel
theorem dX10_held_47 : decode cX10_held 47 = .ok (.aload_n 0, 1) := by decide +kernel
theorem dX10_held_48 : decode cX10_held 48 = .ok (.iconst 0, 1) := by decide +kernel
theorem dX10_held_49 : decode cX10_held 49 = .ok (.iload 4, 2) := by decide +kernel
theorem dX10_held_51 : decode cX10_held 51 = .ok (.invokevirtual 241, 3) := by decide +kernel
theorem dX10_held_54 : decode cX10_held 54 = .ok (.pop, 1) := by decide +kernel
theorem dX10_held_55 : decode cX10_held 55 = .ok (.aload_n 0, 1) := by decide +kernel
theorem dX10_held_56 : decode cX10_held 56 = .ok (.getfield 238, 3) := by decide +kernel
theorem dX10_held_59 : decode cX10_held 59 = .ok (.iload_n 3, 1) := by decide +kernel
theorem dX10_held_60 : decode cX10_held 60 = .ok (.if_icmp .ge 8, 3) := by decide +kernel
theorem dX10_held_63 : decode cX10_held 63 = .ok (.iload 4, 2) := by decide +kernel
theorem dX10_held_65 : decode cX10_held 65 = .ok (.goto 4, 3) := by decide +kernel
theorem dX10_held_68 : decode cX10_held 68 = .ok (.iload_n 2, 1) := by decide +kernel
theorem dX10_held_69 : decode cX10_held 69 = .ok (.istore_n 2, 1) := by decide +kernel
theorem dX10_held_70 : decode cX10_held 70 = .ok (.aload_n 0, 1) := by decide +kernel
theorem dX10_held_71 : decode cX10_held 71 = .ok (.getfield 238, 3) := by decide +kernel
theorem dX10_held_74 : decode cX10_held 74 = .ok (.iload_n 3, 1) := by decide +kernel
theorem dX10_held_75 : decode cX10_held 75 = .ok (.invokestatic 94, 3) := by decide +kernel
theorem dX10_held_78 : decode cX10_held 78 = .ok (.istore_n 3, 1) := by decide +kernel
theorem dX10_held_79 : decode cX10_held 79 = .ok (.iinc 4 1, 3) := by decide +kernel
theorem dX10_held_82 : decode cX10_held 82 = .ok (.goto (-53), 3) := by decide +kernel
theorem dX10_held_85 : decode cX10_held 85 = .ok (.iload_n 1, 1) := by decide +kernel
theorem dX10_held_86 : decode cX10_held 86 = .ok (.ifCond .ne 7, 3) := by decide +kernel
theorem dX10_held_89 : decode cX10_held 89 = .ok (.iload_n 2, 1) := by decide +kernel
theorem dX10_held_90 : decode cX10_held 90 = .ok (.goto 4, 3) := by decide +kernel
theorem dX10_held_93 : decode cX10_held 93 = .ok (.iload_n 3, 1) := by decide +kernel
theorem dX10_held_94 : decode cX10_held 94 = .ok (.ireturn, 1) := by decide +kernel
theorem dX10_gloves_0 : decode cX10_gloves 0 = .ok (.iconst 0, 1) := by decide +kernel
theorem dX10_gloves_1 : decode cX10_gloves 1 = .ok (.istore_n 3, 1) := by decide +kernel
theorem dX10_gloves_2 : decode cX10_gloves 2 = .ok (.iconst 0, 1) := by decide +kernel
theorem dX10_gloves_3 : decode cX10_gloves 3 = .ok (.istore 4, 2) := by decide +kernel
theorem dX10_gloves_5 : decode cX10_gloves 5 = .ok (.iload 4, 2) := by decide +kernel
theorem dX10_gloves_7 : decode cX10_gloves 7 = .ok (.aload_n 0, 1) := by decide +kernel
theorem dX10_gloves_8 : decode cX10_gloves 8 = .ok (.getfield 103, 3) := by decide +kernel
theorem dX10_gloves_11 : decode cX10_gloves 11 = .ok (.if_icmp .ge 48, 3) := by decide +kernel
theorem dX10_gloves_14 : decode cX10_gloves 14 = .ok (.iload_n 3, 1) := by decide +kernel
theorem dX10_gloves_15 : decode cX10_gloves 15 = .ok (.aload_n 0, 1) := by decide +kernel
theorem dX10_gloves_16 : decode cX10_gloves 16 = .ok (.iload 4, 2) := by decide +kernel
theorem dX10_gloves_18 : decode cX10_gloves 18 = .ok (.invokevirtual 197, 3) := by decide +kernel
theorem dX10_gloves_21 : decode cX10_gloves 21 = .ok (.ifCond .eq 29, 3) := by decide +kernel
theorem dX10_gloves_24 : decode cX10_gloves 24 = .ok (.aload_n 0, 1) := by decide +kernel
theorem dX10_gloves_25 : decode cX10_gloves 25 = .ok (.iload 4, 2) := by decide +kernel
theorem dX10_gloves_27 : decode cX10_gloves 27 = .ok (.iconst 3, 1) := by decide +kernel
theorem dX10_gloves_28 : decode cX10_gloves 28 = .ok (.invokevirtual 110, 3) := by decide +kernel
theorem dX10_gloves_31 : decode cX10_gloves 31 = .ok (.iload_n 1, 1) := by decide +kernel
theorem dX10_gloves_32 : decode cX10_gloves 32 = .ok (.if_icmp .ne 18, 3) := by decide +kernel
theorem dX10_gloves_35 : decode cX10_gloves 35 = .ok (.aload_n 0, 1) := by decide +kernel
theorem dX10_gloves_36 : decode cX10_gloves 36 = .ok (.iload 4, 2) := by decide +kernel
theorem dX10_gloves_38 : decode cX10_gloves 38 = .ok (.iconst 4, 1) := by decide +kernel
theorem dX10_gloves_39 : decode cX10_gloves 39 = .ok (.invokevirtual 110, 3) := by decide +kernel
theorem dX10_gloves_42 : decode cX10_gloves 42 = .ok (.iload_n 2, 1) := by decide +kernel
theorem dX10_gloves_43 : decode cX10_gloves 43 = .ok (.if_icmp .ne 7, 3) := by decide +kernel
theorem dX10_gloves_46 : decode cX10_gloves 46 = .ok (.iconst 1, 1) := by decide +kernel
theorem dX10_gloves_47 : decode cX10_gloves 47 = .ok (.goto 4, 3) := by decide +kernel
theorem dX10_gloves_50 : decode cX10_gloves 50 = .ok (.iconst 0, 1) := by decide +kernel
theorem dX10_gloves_51 : decode cX10_gloves 51 = .ok (.iadd, 1) := by decide +kernel
theorem dX10_gloves_52 : decode cX10_gloves 52 = .ok (.istore_n 3, 1) := by decide +kernel
theorem dX10_gloves_53 : decode cX10_gloves 53 = .ok (.iinc 4 1, 3) := by decide +kernel
theorem dX10_gloves_56 : decode cX10_gloves 56 = .ok (.goto (-51), 3) := by decide +kernel
theorem dX10_gloves_59 : decode cX10_gloves 59 = .ok (.iload_n 3, 1) := by decide +kernel
theorem dX10_gloves_60 : decode cX10_gloves 60 = .ok (.ireturn, 1) := by decide +kernel
theorem dX10_pairs_0 : decode cX10_pairs 0 = .ok (.iload_n 1, 1) := by decide +kernel
theorem dX10_pairs_1 : decode cX10_pairs 1 = .ok (.iconst 0, 1) := by decide +kernel
theorem dX10_pairs_2 : decode cX10_pairs 2 = .ok (.iconst 2, 1) := by decide +kernel
theorem dX10_pairs_3 : decode cX10_pairs 3 = .ok (.invokestatic 106, 3) := by decide +kernel
theorem dX10_pairs_6 : decode cX10_pairs 6 = .ok (.ifCond .ne 5, 3) := by decide +kernel
theorem dX10_pairs_9 : decode cX10_pairs 9 = .ok (.iconst (-1), 1) := by decide +kernel
theorem dX10_pairs_10 : decode cX10_pairs 10 = .ok (.ireturn, 1) := by decide +kernel
theorem dX10_pairs_11 : decode cX10_pairs 11 = .ok (.iconst 0, 1) := by decide +kernel
theorem dX10_pairs_12 : decode cX10_pairs 12 = .ok (.istore_n 2, 1) := by decide +kernel
theorem dX10_pairs_13 : decode cX10_pairs 13 = .ok (.bipush (-2), 2) := by decide +kernel
theorem dX10_pairs_15 : decode cX10_pairs 15 = .ok (.istore_n 3, 1) := by decide +kernel
theorem dX10_pairs_16 : decode cX10_pairs 16 = .ok (.bipush 9, 2) := by decide +kernel
theorem dX10_pairs_18 : decode cX10_pairs 18 = .ok (.istore 4, 2) := by decide +kernel
theorem dX10_pairs_20 : decode cX10_pairs 20 = .ok (.iload 4, 2) := by decide +kernel
theorem dX10_pairs_22 : decode cX10_pairs 22 = .ok (.iconst 5, 1) := by decide +kernel
theorem dX10_pairs_23 : decode cX10_pairs 23 = .ok (.if_icmp .lt 51, 3) := by decide +kernel
theorem dX10_pairs_26 : decode cX10_pairs 26 = .ok (.aload_n 0, 1) := by decide +kernel
theorem dX10_pairs_27 : decode cX10_pairs 27 = .ok (.iconst 0, 1) := by decide +kernel
theorem dX10_pairs_28 : decode cX10_pairs 28 = .ok (.iload 4, 2) := by decide +kernel
theorem dX10_pairs_30 : decode cX10_pairs 30 = .ok (.invokevirtual 247, 3) := by decide +kernel
theorem dX10_pairs_33 : decode cX10_pairs 33 = .ok (.istore 5, 2) := by decide +kernel
theorem dX10_pairs_35 : decode cX10_pairs 35 = .ok (.aload_n 0, 1) := by decide +kernel
theorem dX10_pairs_36 : decode cX10_pairs 36 = .ok (.iconst 1, 1) := by decide +kernel
theorem dX10_pairs_37 : decode cX10_pairs 37 = .ok (.iload 4, 2) := by decide +kernel
theorem dX10_pairs_39 : decode cX10_pairs 39 = .ok (.invokevirtual 247, 3) := by decide +kernel
theorem dX10_pairs_42 : decode cX10_pairs 42 = .ok (.istore 6, 2) := by decide +kernel
theorem dX10_pairs_44 : decode cX10_pairs 44 = .ok (.iload_n 2, 1) := by decide +kernel
theorem dX10_pairs_45 : decode cX10_pairs 45 = .ok (.iload 5, 2) := by decide +kernel
theorem dX10_pairs_47 : decode cX10_pairs 47 = .ok (.iload 6, 2) := by decide +kernel
theorem dX10_pairs_49 : decode cX10_pairs 49 = .ok (.invokestatic 94, 3) := by decide +kernel
theorem dX10_pairs_52 : decode cX10_pairs 52 = .ok (.iadd, 1) := by decide +kernel
theorem dX10_pairs_53 : decode cX10_pairs 53 = .ok (.istore_n 2, 1) := by decide +kernel
theorem dX10_pairs_54 : decode cX10_pairs 54 = .ok (.iload 5, 2) := by decide +kernel
theorem dX10_pairs_56 : decode cX10_pairs 56 = .ok (.iload 6, 2) := by decide +kernel
theorem dX10_pairs_58 : decode cX10_pairs 58 = .ok (.if_icmp .eq 8, 3) := by decide +kernel
theorem dX10_pairs_61 : decode cX10_pairs 61 = .ok (.iload 4, 2) := by decide +kernel
theorem dX10_pairs_63 : decode cX10_pairs 63 = .ok (.goto 4, 3) := by decide +kernel
theorem dX10_pairs_66 : decode cX10_pairs 66 = .ok (.iload_n 3, 1) := by decide +kernel
theorem dX10_pairs_67 : decode cX10_pairs 67 = .ok (.istore_n 3, 1) := by decide +kernel
theorem dX10_pairs_68 : decode cX10_pairs 68 = .ok (.iinc 4 (-1), 3) := by decide +kernel
theorem dX10_pairs_71 : decode cX10_pairs 71 = .ok (.goto (-51), 3) := by decide +kernel
theorem dX10_pairs_74 : decode cX10_pairs 74 = .ok (.iload_n 1, 1) := by decide +kernel
theorem dX10_pairs_75 : decode cX10_pairs 75 = .ok (.ifCond .ne 7, 3) := by decide +kernel
theorem dX10_pairs_78 : decode cX10_pairs 78 = .ok (.iload_n 2, 1) := by decide +kernel
theorem dX10_pairs_79 : decode cX10_pairs 79 = .ok (.goto 20, 3) := by decide +kernel
theorem dX10_pairs_82 : decode cX10_pairs 82 = .ok (.iload_n 1, 1) := by decide +kernel
theorem dX10_pairs_83 : decode cX10_pairs 83 = .ok (.iconst 1, 1) := by decide +kernel
theorem dX10_pairs_84 : decode cX10_pairs 84 = .ok (.if_icmp .ne 14, 3) := by decide +kernel
theorem dX10_pairs_87 : decode cX10_pairs 87 = .ok (.aload_n 0, 1) := by decide +kernel
theorem dX10_pairs_88 : decode cX10_pairs 88 = .ok (.invokevirtual 203, 3) := by decide +kernel
theorem dX10_pairs_91 : decode cX10_pairs 91 = .ok (.iconst 2, 1) := by decide +kernel
theorem dX10_pairs_92 : decode cX10_pairs 92 = .ok (.iload_n 2, 1) := by decide +kernel
theorem dX10_pairs_93 : decode cX10_pairs 93 = .ok (.imul, 1) := by decide +kernel
theorem dX10_pairs_94 : decode cX10_pairs 94 = .ok (.isub, 1) := by decide +kernel
theorem dX10_pairs_95 : decode cX10_pairs 95 = .ok (.goto 4, 3) := by decide +kernel
theorem dX10_pairs_98 : decode cX10_pairs 98 = .ok (.iload_n 3, 1) := by decide +kernel
theorem dX10_pairs_99 : decode cX10_pairs 99 = .ok (.ireturn, 1) := by decide +kernel
theorem dX10_isShelf_0 : decode cX10_isShelf 0 = .ok (.iload_n 0, 1) := by decide +kernel
theorem dX10_isShelf_1 : decode cX10_isShelf 1 = .ok (.iconst 0, 1) := by decide +kernel
theorem dX10_isShelf_2 : decode cX10_isShelf 2 = .ok (.iconst 5, 1) := by decide +kernel
theorem dX10_isShelf_3 : decode cX10_isShelf 3 = .ok (.invokestatic 106, 3) := by decide +kernel
theorem dX10_isShelf_6 : decode cX10_isShelf 6 = .ok (.ireturn, 1) := by decide +kernel
theorem dX10_bytesIn_0 : decode cX10_bytesIn 0 = .ok (.aload_n 0, 1) := by decide +kernel
theorem dX10_bytesIn_1 : decode cX10_bytesIn 1 = .ok (.getfield 60, 3) := by decide +kernel
theorem dX10_bytesIn_4 : decode cX10_bytesIn 4 = .ok (.iload_n 1, 1) := by decide +kernel
theorem dX10_bytesIn_5 : decode cX10_bytesIn 5 = .ok (.iaload, 1) := by decide +kernel
theorem dX10_bytesIn_6 : decode cX10_bytesIn 6 = .ok (.iconst (-1), 1) := by decide +kernel
theorem dX10_bytesIn_7 : decode cX10_bytesIn 7 = .ok (.if_icmp .ne 8, 3) := by decide +kernel
theorem dX10_bytesIn_10 : decode cX10_bytesIn 10 = .ok (.bipush (-11), 2) := by decide +kernel
theorem dX10_bytesIn_12 : decode cX10_bytesIn 12 = .ok (.goto 18, 3) := by decide +kernel
theorem dX10_bytesIn_15 : decode cX10_bytesIn 15 = .ok (.aload_n 0, 1) := by decide +kernel
theorem dX10_bytesIn_16 : decode cX10_bytesIn 16 = .ok (.getfield 60, 3) := by decide +kernel
theorem dX10_bytesIn_19 : decode cX10_bytesIn 19 = .ok (.iload_n 1, 1) := by decide +kernel
theorem dX10_bytesIn_20 : decode cX10_bytesIn 20 = .ok (.iaload, 1) := by decide +kernel
theorem dX10_bytesIn_21 : decode cX10_bytesIn 21 = .ok (.ifCond .eq 8, 3) := by decide +kernel
theorem dX10_bytesIn_24 : decode cX10_bytesIn 24 = .ok (.bipush (-12), 2) := by decide +kernel
theorem dX10_bytesIn_26 : decode cX10_bytesIn 26 = .ok (.goto 4, 3) := by decide +kernel
theorem dX10_bytesIn_29 : decode cX10_bytesIn 29 = .ok (.iconst 1, 1) := by decide +kernel
theorem dX10_bytesIn_30 : decode cX10_bytesIn 30 = .ok (.ireturn, 1) := by decide +kernel
theorem dX10_byteAt_0 : decode cX10_byteAt 0 = .ok (.iload_n 2, 1) := by decide +kernel
theorem dX10_byteAt_1 : decode cX10_byteAt 1 = .ok (.aload_n 0, 1) := by decide +kernel
theorem dX10_byteAt_2 : decode cX10_byteAt 2 = .ok (.getfield 63, 3) := by decide +kernel
theorem dX10_byteAt_5 : decode cX10_byteAt 5 = .ok (.iload_n 1, 1) := by decide +kernel
theorem dX10_byteAt_6 : decode cX10_byteAt 6 = .ok (.iaload, 1) := by decide +kernel
theorem dX10_byteAt_7 : decode cX10_byteAt 7 = .ok (.if_icmp .ge 18, 3) := by decide +kernel
theorem dX10_byteAt_10 : decode cX10_byteAt 10 = .ok (.aload_n 0, 1) := by decide +kernel
theorem dX10_byteAt_11 : decode cX10_byteAt 11 = .ok (.getfield 66, 3) := by decide +kernel
theorem dX10_byteAt_14 : decode cX10_byteAt 14 = .ok (.bipush 60, 2) := by decide +kernel
theorem dX10_byteAt_16 : decode cX10_byteAt 16 = .ok (.iload_n 1, 1) := by decide +kernel
theorem dX10_byteAt_17 : decode cX10_byteAt 17 = .ok (.imul, 1) := by decide +kernel
theorem dX10_byteAt_18 : decode cX10_byteAt 18 = .ok (.iload_n 2, 1) := by decide +kernel
theorem dX10_byteAt_19 : decode cX10_byteAt 19 = .ok (.iadd, 1) := by decide +kernel
theorem dX10_byteAt_20 : decode cX10_byteAt 20 = .ok (.laload, 1) := by decide +kernel
theorem dX10_byteAt_21 : decode cX10_byteAt 21 = .ok (.l2i, 1) := by decide +kernel
theorem dX10_byteAt_22 : decode cX10_byteAt 22 = .ok (.goto 4, 3) := by decide +kernel
theorem dX10_byteAt_25 : decode cX10_byteAt 25 = .ok (.iconst (-1), 1) := by decide +kernel
theorem dX10_byteAt_26 : decode cX10_byteAt 26 = .ok (.ireturn, 1) := by decide +kernel
theorem dX10_guests_0 : decode cX10_guests 0 = .ok (.iload_n 1, 1) := by decide +kernel
theorem dX10_guests_1 : decode cX10_guests 1 = .ok (.invokestatic 250, 3) := by decide +kernel
theorem dX10_guests_4 : decode cX10_guests 4 = .ok (.ifCond .eq 13, 3) := by decide +kernel
theorem dX10_guests_7 : decode cX10_guests 7 = .ok (.iload_n 3, 1) := by decide +kernel
theorem dX10_guests_8 : decode cX10_guests 8 = .ok (.iconst 1, 1) := by decide +kernel
theorem dX10_guests_9 : decode cX10_guests 9 = .ok (.bipush 9, 2) := by decide +kernel
theorem dX10_guests_11 : decode cX10_guests 11 = .ok (.invokestatic 106, 3) := by decide +kernel
theorem dX10_guests_14 : decode cX10_guests 14 = .ok (.ifCond .ne 5, 3) := by decide +kernel
theorem dX10_guests_17 : decode cX10_guests 17 = .ok (.iconst (-1), 1) := by decide +kernel
theorem dX10_guests_18 : decode cX10_guests 18 = .ok (.ireturn, 1) := by decide +kernel
theorem dX10_guests_19 : decode cX10_guests 19 = .ok (.aload_n 0, 1) := by decide +kernel
theorem dX10_guests_20 : decode cX10_guests 20 = .ok (.getfield 60, 3) := by decide +kernel
theorem dX10_guests_23 : decode cX10_guests 23 = .ok (.iload_n 1, 1) := by decide +kernel
theorem dX10_guests_24 : decode cX10_guests 24 = .ok (.iaload, 1) := by decide +kernel
theorem dX10_guests_25 : decode cX10_guests 25 = .ok (.ifCond .le 6, 3) := by decide +kernel
theorem dX10_guests_28 : decode cX10_guests 28 = .ok (.bipush (-12), 2) := by decide +kernel
theorem dX10_guests_30 : decode cX10_guests 30 = .ok (.ireturn, 1) := by decide +kernel
theorem dX10_guests_31 : decode cX10_guests 31 = .ok (.iconst 0, 1) := by decide +kernel
theorem dX10_guests_32 : decode cX10_guests 32 = .ok (.istore 4, 2) := by decide +kernel
theorem dX10_guests_34 : decode cX10_guests 34 = .ok (.iconst 0, 1) := by decide +kernel
theorem dX10_guests_35 : decode cX10_guests 35 = .ok (.istore 5, 2) := by decide +kernel
theorem dX10_guests_37 : decode cX10_guests 37 = .ok (.iload 5, 2) := by decide +kernel
theorem dX10_guests_39 : decode cX10_guests 39 = .ok (.iload_n 3, 1) := by decide +kernel
theorem dX10_guests_40 : decode cX10_guests 40 = .ok (.if_icmp .ge 175, 3) := by decide +kernel
theorem dX10_guests_43 : decode cX10_guests 43 = .ok (.iload 4, 2) := by decide +kernel
theorem dX10_guests_45 : decode cX10_guests 45 = .ok (.iload 5, 2) := by decide +kernel
theorem dX10_guests_47 : decode cX10_guests 47 = .ok (.if_icmp .ne 168, 3) := by decide +kernel
theorem dX10_guests_50 : decode cX10_guests 50 = .ok (.aload_n 0, 1) := by decide +kernel
theorem dX10_guests_51 : decode cX10_guests 51 = .ok (.getfield 103, 3) := by decide +kernel
theorem dX10_guests_54 : decode cX10_guests 54 = .ok (.bipush 9, 2) := by decide +kernel
theorem dX10_guests_56 : decode cX10_guests 56 = .ok (.if_icmp .ge 159, 3) := by decide +kernel
theorem dX10_guests_59 : decode cX10_guests 59 = .ok (.iload_n 2, 1) := by decide +kernel
theorem dX10_guests_60 : decode cX10_guests 60 = .ok (.i2l, 1) := by decide +kernel
theorem dX10_guests_61 : decode cX10_guests 61 = .ok (.ldc2_w 253, 3) := by decide +kernel
theorem dX10_guests_64 : decode cX10_guests 64 = .ok (.iload 5, 2) := by decide +kernel
theorem dX10_guests_66 : decode cX10_guests 66 = .ok (.i2l, 1) := by decide +kernel
theorem dX10_guests_67 : decode cX10_guests 67 = .ok (.lmul, 1) := by decide +kernel
theorem dX10_guests_68 : decode cX10_guests 68 = .ok (.ladd, 1) := by decide +kernel
theorem dX10_guests_69 : decode cX10_guests 69 = .ok (.lstore 6, 2) := by decide +kernel
theorem dX10_guests_71 : decode cX10_guests 71 = .ok (.aload_n 0, 1) := by decide +kernel
theorem dX10_guests_72 : decode cX10_guests 72 = .ok (.getfield 60, 3) := by decide +kernel
theorem dX10_guests_75 : decode cX10_guests 75 = .ok (.iload_n 1, 1) := by decide +kernel
theorem dX10_guests_76 : decode cX10_guests 76 = .ok (.iaload, 1) := by decide +kernel
theorem dX10_guests_77 : decode cX10_guests 77 = .ok (.ifCond .ne 132, 3) := by decide +kernel
theorem dX10_guests_80 : decode cX10_guests 80 = .ok (.iload_n 2, 1) := by decide +kernel
theorem dX10_guests_81 : decode cX10_guests 81 = .ok (.ifCond .lt 128, 3) := by decide +kernel
theorem dX10_guests_84 : decode cX10_guests 84 = .ok (.lload 6, 2) := by decide +kernel
theorem dX10_guests_86 : decode cX10_guests 86 = .ok (.ldc2_w 255, 3) := by decide +kernel
theorem dX10_guests_89 : decode cX10_guests 89 = .ok (.ladd, 1) := by decide +kernel
theorem dX10_guests_90 : decode cX10_guests 90 = .ok (.aload_n 0, 1) := by decide +kernel
theorem dX10_guests_91 : decode cX10_guests 91 = .ok (.getfield 63, 3) := by decide +kernel
theorem dX10_guests_94 : decode cX10_guests 94 = .ok (.iload_n 1, 1) := by decide +kernel
theorem dX10_guests_95 : decode cX10_guests 95 = .ok (.iaload, 1) := by decide +kernel
theorem dX10_guests_96 : decode cX10_guests 96 = .ok (.i2l, 1) := by decide +kernel
theorem dX10_guests_97 : decode cX10_guests 97 = .ok (.lcmp, 1) := by decide +kernel
theorem dX10_guests_98 : decode cX10_guests 98 = .ok (.ifCond .ge 111, 3) := by decide +kernel
theorem dX10_guests_101 : decode cX10_guests 101 = .ok (.lload 6, 2) := by decide +kernel
theorem dX10_guests_103 : decode cX10_guests 103 = .ok (.l2i, 1) := by decide +kernel
theorem dX10_guests_104 : decode cX10_guests 104 = .ok (.istore 8, 2) := by decide +kernel
theorem dX10_guests_106 : decode cX10_guests 106 = .ok (.aload_n 0, 1) := by decide +kernel
theorem dX10_guests_107 : decode cX10_guests 107 = .ok (.iload_n 1, 1) := by decide +kernel
theorem dX10_guests_108 : decode cX10_guests 108 = .ok (.iload 8, 2) := by decide +kernel
theorem dX10_guests_110 : decode cX10_guests 110 = .ok (.invokevirtual 257, 3) := by decide +kernel
theorem dX10_guests_113 : decode cX10_guests 113 = .ok (.istore 9, 2) := by decide +kernel
theorem dX10_guests_115 : decode cX10_guests 115 = .ok (.aload_n 0, 1) := by decide +kernel
theorem dX10_guests_116 : decode cX10_guests 116 = .ok (.iload_n 1, 1) := by decide +kernel
theorem dX10_guests_117 : decode cX10_guests 117 = .ok (.iload 8, 2) := by decide +kernel
theorem dX10_guests_119 : decode cX10_guests 119 = .ok (.iconst 1, 1) := by decide +kernel
theorem dX10_guests_120 : decode cX10_guests 120 = .ok (.iadd, 1) := by decide +kernel
theorem dX10_guests_121 : decode cX10_guests 121 = .ok (.invokevirtual 257, 3) := by decide +kernel
theorem dX10_guests_124 : decode cX10_guests 124 = .ok (.istore 10, 2) := by decide +kernel
theorem dX10_guests_126 : decode cX10_guests 126 = .ok (.aload_n 0, 1) := by decide +kernel
theorem dX10_guests_127 : decode cX10_guests 127 = .ok (.iload_n 1, 1) := by decide +kernel
theorem dX10_guests_128 : decode cX10_guests 128 = .ok (.iload 8, 2) := by decide +kernel
theorem dX10_guests_130 : decode cX10_guests 130 = .ok (.iconst 2, 1) := by decide +kernel
theorem dX10_guests_131 : decode cX10_guests 131 = .ok (.iadd, 1) := by decide +kernel
theorem dX10_guests_132 : decode cX10_guests 132 = .ok (.invokevirtual 257, 3) := by decide +kernel
theorem dX10_guests_135 : decode cX10_guests 135 = .ok (.istore 11, 2) := by decide +kernel
theorem dX10_guests_137 : decode cX10_guests 137 = .ok (.aload_n 0, 1) := by decide +kernel
theorem dX10_guests_138 : decode cX10_guests 138 = .ok (.iload_n 1, 1) := by decide +kernel
theorem dX10_guests_139 : decode cX10_guests 139 = .ok (.iload 8, 2) := by decide +kernel
theorem dX10_guests_141 : decode cX10_guests 141 = .ok (.iconst 3, 1) := by decide +kernel
theorem dX10_guests_142 : decode cX10_guests 142 = .ok (.iadd, 1) := by decide +kernel
theorem dX10_guests_143 : decode cX10_guests 143 = .ok (.invokevirtual 257, 3) := by decide +kernel
theorem dX10_guests_146 : decode cX10_guests 146 = .ok (.istore 12, 2) := by decide +kernel
theorem dX10_guests_148 : decode cX10_guests 148 = .ok (.iload 9, 2) := by decide +kernel
theorem dX10_guests_150 : decode cX10_guests 150 = .ok (.iconst 0, 1) := by decide +kernel
theorem dX10_guests_151 : decode cX10_guests 151 = .ok (.bipush 99, 2) := by decide +kernel
theorem dX10_guests_153 : decode cX10_guests 153 = .ok (.invokestatic 106, 3) := by decide +kernel
theorem dX10_guests_156 : decode cX10_guests 156 = .ok (.ifCond .eq 53, 3) := by decide +kernel
theorem dX10_guests_159 : decode cX10_guests 159 = .ok (.iload 10, 2) := by decide +kernel
theorem dX10_guests_161 : decode cX10_guests 161 = .ok (.iconst 0, 1) := by decide +kernel
theorem dX10_guests_162 : decode cX10_guests 162 = .ok (.bipush 9, 2) := by decide +kernel
theorem dX10_guests_164 : decode cX10_guests 164 = .ok (.invokestatic 106, 3) := by decide +kernel
theorem dX10_guests_167 : decode cX10_guests 167 = .ok (.ifCond .eq 42, 3) := by decide +kernel
theorem dX10_guests_170 : decode cX10_guests 170 = .ok (.iload 11, 2) := by decide +kernel
theorem dX10_guests_172 : decode cX10_guests 172 = .ok (.iconst 0, 1) := by decide +kernel
theorem dX10_guests_173 : decode cX10_guests 173 = .ok (.bipush 9, 2) := by decide +kernel
theorem dX10_guests_175 : decode cX10_guests 175 = .ok (.invokestatic 106, 3) := by decide +kernel
theorem dX10_guests_178 : decode cX10_guests 178 = .ok (.ifCond .eq 31, 3) := by decide +kernel
theorem dX10_guests_181 : decode cX10_guests 181 = .ok (.iload 12, 2) := by decide +kernel
theorem dX10_guests_183 : decode cX10_guests 183 = .ok (.iconst 0, 1) := by decide +kernel
theorem dX10_guests_184 : decode cX10_guests 184 = .ok (.iconst 1, 1) := by decide +kernel
theorem dX10_guests_185 : decode cX10_guests 185 = .ok (.invokestatic 106, 3) := by decide +kernel
theorem dX10_guests_188 : decode cX10_guests 188 = .ok (.ifCond .eq 21, 3) := by decide +kernel
theorem dX10_guests_191 : decode cX10_guests 191 = .ok (.aload_n 0, 1) := by decide +kernel
theorem dX10_guests_192 : decode cX10_guests 192 = .ok (.iload 9, 2) := by decide +kernel
theorem dX10_guests_194 : decode cX10_guests 194 = .ok (.iload 10, 2) := by decide +kernel
theorem dX10_guests_196 : decode cX10_guests 196 = .ok (.iload 11, 2) := by decide +kernel
theorem dX10_guests_198 : decode cX10_guests 198 = .ok (.iload 12, 2) := by decide +kernel
theorem dX10_guests_200 : decode cX10_guests 200 = .ok (.bipush 7, 2) := by decide +kernel
theorem dX10_guests_202 : decode cX10_guests 202 = .ok (.invokevirtual 117, 3) := by decide +kernel
theorem dX10_guests_205 : decode cX10_guests 205 = .ok (.pop, 1) := by decide +kernel
theorem dX10_guests_206 : decode cX10_guests 206 = .ok (.iinc 4 1, 3) := by decide +kernel
theorem dX10_guests_209 : decode cX10_guests 209 = .ok (.iinc 5 1, 3) := by decide +kernel
theorem dX10_guests_212 : decode cX10_guests 212 = .ok (.goto (-175), 3) := by decide +kernel
theorem dX10_guests_215 : decode cX10_guests 215 = .ok (.iload 4, 2) := by decide +kernel
theorem dX10_guests_217 : decode cX10_guests 217 = .ok (.ireturn, 1) := by decide +kernel
theorem dX10_wrong_0 : decode cX10_wrong 0 = .ok (.aload_n 0, 1) := by decide +kernel
theorem dX10_wrong_1 : decode cX10_wrong 1 = .ok (.iconst 0, 1) := by decide +kernel
theorem dX10_wrong_2 : decode cX10_wrong 2 = .ok (.iconst (-1), 1) := by decide +kernel
theorem dX10_wrong_3 : decode cX10_wrong 3 = .ok (.invokevirtual 241, 3) := by decide +kernel
theorem dX10_wrong_6 : decode cX10_wrong 6 = .ok (.istore_n 2, 1) := by decide +kernel
theorem dX10_wrong_7 : decode cX10_wrong 7 = .ok (.iconst 0, 1) := by decide +kernel
theorem dX10_wrong_8 : decode cX10_wrong 8 = .ok (.istore_n 3, 1) := by decide +kernel
theorem dX10_wrong_9 : decode cX10_wrong 9 = .ok (.iload_n 3, 1) := by decide +kernel
theorem dX10_wrong_10 : decode cX10_wrong 10 = .ok (.bipush 9, 2) := by decide +kernel
theorem dX10_wrong_12 : decode cX10_wrong 12 = .ok (.aload_n 0, 1) := by decide +kernel
theorem dX10_wrong_13 : decode cX10_wrong 13 = .ok (.getfield 63, 3) := by decide +kernel
theorem dX10_wrong_16 : decode cX10_wrong 16 = .ok (.iload_n 1, 1) := by decide +kernel
theorem dX10_wrong_17 : decode cX10_wrong 17 = .ok (.iaload, 1) := by decide +kernel
theorem dX10_wrong_18 : decode cX10_wrong 18 = .ok (.invokestatic 94, 3) := by decide +kernel
theorem dX10_wrong_21 : decode cX10_wrong 21 = .ok (.if_icmp .ge 42, 3) := by decide +kernel
theorem dX10_wrong_24 : decode cX10_wrong 24 = .ok (.iload_n 3, 1) := by decide +kernel
theorem dX10_wrong_25 : decode cX10_wrong 25 = .ok (.iload_n 2, 1) := by decide +kernel
theorem dX10_wrong_26 : decode cX10_wrong 26 = .ok (.if_icmp .ge 29, 3) := by decide +kernel
theorem dX10_wrong_29 : decode cX10_wrong 29 = .ok (.aload_n 0, 1) := by decide +kernel
theorem dX10_wrong_30 : decode cX10_wrong 30 = .ok (.iload_n 1, 1) := by decide +kernel
theorem dX10_wrong_31 : decode cX10_wrong 31 = .ok (.iload_n 3, 1) := by decide +kernel
theorem dX10_wrong_32 : decode cX10_wrong 32 = .ok (.invokevirtual 257, 3) := by decide +kernel
theorem dX10_wrong_35 : decode cX10_wrong 35 = .ok (.bipush 9, 2) := by decide +kernel
theorem dX10_wrong_37 : decode cX10_wrong 37 = .ok (.if_icmp .eq 20, 3) := by decide +kernel
theorem dX10_wrong_40 : decode cX10_wrong 40 = .ok (.aload_n 0, 1) := by decide +kernel
theorem dX10_wrong_41 : decode cX10_wrong 41 = .ok (.iload_n 1, 1) := by decide +kernel
theorem dX10_wrong_42 : decode cX10_wrong 42 = .ok (.iload_n 3, 1) := by decide +kernel
theorem dX10_wrong_43 : decode cX10_wrong 43 = .ok (.invokevirtual 257, 3) := by decide +kernel
theorem dX10_wrong_46 : decode cX10_wrong 46 = .ok (.aload_n 0, 1) := by decide +kernel
theorem dX10_wrong_47 : decode cX10_wrong 47 = .ok (.getfield 57, 3) := by decide +kernel
theorem dX10_wrong_50 : decode cX10_wrong 50 = .ok (.iload_n 3, 1) := by decide +kernel
theorem dX10_wrong_51 : decode cX10_wrong 51 = .ok (.iaload, 1) := by decide +kernel
theorem dX10_wrong_52 : decode cX10_wrong 52 = .ok (.if_icmp .eq 5, 3) := by decide +kernel
theorem dX10_wrong_55 : decode cX10_wrong 55 = .ok (.iload_n 3, 1) := by decide +kernel
theorem dX10_wrong_56 : decode cX10_wrong 56 = .ok (.ireturn, 1) := by decide +kernel
theorem dX10_wrong_57 : decode cX10_wrong 57 = .ok (.iinc 3 1, 3) := by decide +kernel
theorem dX10_wrong_60 : decode cX10_wrong 60 = .ok (.goto (-51), 3) := by decide +kernel
theorem dX10_wrong_63 : decode cX10_wrong 63 = .ok (.bipush (-2), 2) := by decide +kernel
theorem dX10_wrong_65 : decode cX10_wrong 65 = .ok (.ireturn, 1) := by decide +kernel
theorem dX10_judge_0 : decode cX10_judge 0 = .ok (.iload_n 1, 1) := by decide +kernel
theorem dX10_judge_1 : decode cX10_judge 1 = .ok (.invokestatic 250, 3) := by decide +kernel
theorem dX10_judge_4 : decode cX10_judge 4 = .ok (.ifCond .ne 5, 3) := by decide +kernel
theorem dX10_judge_7 : decode cX10_judge 7 = .ok (.iconst (-1), 1) := by decide +kernel
theorem dX10_judge_8 : decode cX10_judge 8 = .ok (.ireturn, 1) := by decide +kernel
theorem dX10_judge_9 : decode cX10_judge 9 = .ok (.aload_n 0, 1) := by decide +kernel
theorem dX10_judge_10 : decode cX10_judge 10 = .ok (.iload_n 1, 1) := by decide +kernel
theorem dX10_judge_11 : decode cX10_judge 11 = .ok (.invokevirtual 260, 3) := by decide +kernel
theorem dX10_judge_14 : decode cX10_judge 14 = .ok (.iconst 1, 1) := by decide +kernel
theorem dX10_judge_15 : decode cX10_judge 15 = .ok (.if_icmp .ge 11, 3) := by decide +kernel
theorem dX10_judge_18 : decode cX10_judge 18 = .ok (.aload_n 0, 1) := by decide +kernel
theorem dX10_judge_19 : decode cX10_judge 19 = .ok (.iload_n 1, 1) := by decide +kernel
theorem dX10_judge_20 : decode cX10_judge 20 = .ok (.invokevirtual 260, 3) := by decide +kernel
theorem dX10_judge_23 : decode cX10_judge 23 = .ok (.goto 8, 3) := by decide +kernel
theorem dX10_judge_26 : decode cX10_judge 26 = .ok (.aload_n 0, 1) := by decide +kernel
theorem dX10_judge_27 : decode cX10_judge 27 = .ok (.iload_n 1, 1) := by decide +kernel
theorem dX10_judge_28 : decode cX10_judge 28 = .ok (.invokevirtual 263, 3) := by decide +kernel
theorem dX10_judge_31 : decode cX10_judge 31 = .ok (.ireturn, 1) := by decide +kernel
theorem dX10_fits_0 : decode cX10_fits 0 = .ok (.iload_n 1, 1) := by decide +kernel
theorem dX10_fits_1 : decode cX10_fits 1 = .ok (.invokestatic 250, 3) := by decide +kernel
theorem dX10_fits_4 : decode cX10_fits 4 = .ok (.ifCond .eq 20, 3) := by decide +kernel
theorem dX10_fits_7 : decode cX10_fits 7 = .ok (.aload_n 0, 1) := by decide +kernel
theorem dX10_fits_8 : decode cX10_fits 8 = .ok (.iload_n 2, 1) := by decide +kernel
theorem dX10_fits_9 : decode cX10_fits 9 = .ok (.invokevirtual 124, 3) := by decide +kernel
theorem dX10_fits_12 : decode cX10_fits 12 = .ok (.ifCond .eq 12, 3) := by decide +kernel
theorem dX10_fits_15 : decode cX10_fits 15 = .ok (.iload_n 3, 1) := by decide +kernel
theorem dX10_fits_16 : decode cX10_fits 16 = .ok (.iconst 0, 1) := by decide +kernel
theorem dX10_fits_17 : decode cX10_fits 17 = .ok (.iconst 5, 1) := by decide +kernel
theorem dX10_fits_18 : decode cX10_fits 18 = .ok (.invokestatic 106, 3) := by decide +kernel
theorem dX10_fits_21 : decode cX10_fits 21 = .ok (.ifCond .ne 5, 3) := by decide +kernel
theorem dX10_fits_24 : decode cX10_fits 24 = .ok (.iconst (-1), 1) := by decide +kernel
theorem dX10_fits_25 : decode cX10_fits 25 = .ok (.ireturn, 1) := by decide +kernel
theorem dX10_fits_26 : decode cX10_fits 26 = .ok (.aload_n 0, 1) := by decide +kernel
theorem dX10_fits_27 : decode cX10_fits 27 = .ok (.iload_n 1, 1) := by decide +kernel
theorem dX10_fits_28 : decode cX10_fits 28 = .ok (.invokevirtual 260, 3) := by decide +kernel
theorem dX10_fits_31 : decode cX10_fits 31 = .ok (.iconst 1, 1) := by decide +kernel
theorem dX10_fits_32 : decode cX10_fits 32 = .ok (.if_icmp .ge 9, 3) := by decide +kernel
theorem dX10_fits_35 : decode cX10_fits 35 = .ok (.aload_n 0, 1) := by decide +kernel
theorem dX10_fits_36 : decode cX10_fits 36 = .ok (.iload_n 1, 1) := by decide +kernel
theorem dX10_fits_37 : decode cX10_fits 37 = .ok (.invokevirtual 260, 3) := by decide +kernel
theorem dX10_fits_40 : decode cX10_fits 40 = .ok (.ireturn, 1) := by decide +kernel
theorem dX10_fits_41 : decode cX10_fits 41 = .ok (.iload_n 3, 1) := by decide +kernel
theorem dX10_fits_42 : decode cX10_fits 42 = .ok (.iconst 2, 1) := by decide +kernel
theorem dX10_fits_43 : decode cX10_fits 43 = .ok (.if_icmp .ge 7, 3) := by decide +kernel
theorem dX10_fits_46 : decode cX10_fits 46 = .ok (.iconst 2, 1) := by decide +kernel
theorem dX10_fits_47 : decode cX10_fits 47 = .ok (.goto 13, 3) := by decide +kernel
theorem dX10_fits_50 : decode cX10_fits 50 = .ok (.iload_n 3, 1) := by decide +kernel
theorem dX10_fits_51 : decode cX10_fits 51 = .ok (.iconst 4, 1) := by decide +kernel
theorem dX10_fits_52 : decode cX10_fits 52 = .ok (.if_icmp .ge 7, 3) := by decide +kernel
theorem dX10_fits_55 : decode cX10_fits 55 = .ok (.iconst 1, 1) := by decide +kernel
theorem dX10_fits_56 : decode cX10_fits 56 = .ok (.goto 4, 3) := by decide +kernel
theorem dX10_fits_59 : decode cX10_fits 59 = .ok (.iconst 0, 1) := by decide +kernel
theorem dX10_fits_60 : decode cX10_fits 60 = .ok (.istore 4, 2) := by decide +kernel
theorem dX10_fits_62 : decode cX10_fits 62 = .ok (.aload_n 0, 1) := by decide +kernel
theorem dX10_fits_63 : decode cX10_fits 63 = .ok (.iload_n 2, 1) := by decide +kernel
theorem dX10_fits_64 : decode cX10_fits 64 = .ok (.iload 4, 2) := by decide +kernel
theorem dX10_fits_66 : decode cX10_fits 66 = .ok (.invokevirtual 110, 3) := by decide +kernel
theorem dX10_fits_69 : decode cX10_fits 69 = .ok (.istore 5, 2) := by decide +kernel
theorem dX10_fits_71 : decode cX10_fits 71 = .ok (.iconst 0, 1) := by decide +kernel
theorem dX10_fits_72 : decode cX10_fits 72 = .ok (.istore 6, 2) := by decide +kernel
theorem dX10_fits_74 : decode cX10_fits 74 = .ok (.bipush (-2), 2) := by decide +kernel
theorem dX10_fits_76 : decode cX10_fits 76 = .ok (.istore 7, 2) := by decide +kernel
theorem dX10_fits_78 : decode cX10_fits 78 = .ok (.iload 4, 2) := by decide +kernel
theorem dX10_fits_80 : decode cX10_fits 80 = .ok (.ifCond .ne 8, 3) := by decide +kernel
theorem dX10_fits_83 : decode cX10_fits 83 = .ok (.bipush 99, 2) := by decide +kernel
theorem dX10_fits_85 : decode cX10_fits 85 = .ok (.goto 5, 3) := by decide +kernel
theorem dX10_fits_88 : decode cX10_fits 88 = .ok (.bipush 9, 2) := by decide +kernel
theorem dX10_fits_90 : decode cX10_fits 90 = .ok (.istore 8, 2) := by decide +kernel
theorem dX10_fits_92 : decode cX10_fits 92 = .ok (.iload 8, 2) := by decide +kernel
theorem dX10_fits_94 : decode cX10_fits 94 = .ok (.ifCond .lt 64, 3) := by decide +kernel
theorem dX10_fits_97 : decode cX10_fits 97 = .ok (.aload_n 0, 1) := by decide +kernel
theorem dX10_fits_98 : decode cX10_fits 98 = .ok (.iload_n 2, 1) := by decide +kernel
theorem dX10_fits_99 : decode cX10_fits 99 = .ok (.iload 4, 2) := by decide +kernel
theorem dX10_fits_101 : decode cX10_fits 101 = .ok (.iload 8, 2) := by decide +kernel
theorem dX10_fits_103 : decode cX10_fits 103 = .ok (.invokevirtual 113, 3) := by decide +kernel
theorem dX10_fits_106 : decode cX10_fits 106 = .ok (.aload_n 0, 1) := by decide +kernel
theorem dX10_fits_107 : decode cX10_fits 107 = .ok (.iload_n 1, 1) := by decide +kernel
theorem dX10_fits_108 : decode cX10_fits 108 = .ok (.invokevirtual 263, 3) := by decide +kernel
theorem dX10_fits_111 : decode cX10_fits 111 = .ok (.bipush (-2), 2) := by decide +kernel
theorem dX10_fits_113 : decode cX10_fits 113 = .ok (.if_icmp .ne 7, 3) := by decide +kernel
theorem dX10_fits_116 : decode cX10_fits 116 = .ok (.iconst 1, 1) := by decide +kernel
theorem dX10_fits_117 : decode cX10_fits 117 = .ok (.goto 4, 3) := by decide +kernel
theorem dX10_fits_120 : decode cX10_fits 120 = .ok (.iconst 0, 1) := by decide +kernel
theorem dX10_fits_121 : decode cX10_fits 121 = .ok (.istore 9, 2) := by decide +kernel
theorem dX10_fits_123 : decode cX10_fits 123 = .ok (.iload 6, 2) := by decide +kernel
theorem dX10_fits_125 : decode cX10_fits 125 = .ok (.iload 9, 2) := by decide +kernel
theorem dX10_fits_127 : decode cX10_fits 127 = .ok (.ifCond .eq 7, 3) := by decide +kernel
theorem dX10_fits_130 : decode cX10_fits 130 = .ok (.iconst 1, 1) := by decide +kernel
theorem dX10_fits_131 : decode cX10_fits 131 = .ok (.goto 4, 3) := by decide +kernel
theorem dX10_fits_134 : decode cX10_fits 134 = .ok (.iconst 0, 1) := by decide +kernel
theorem dX10_fits_135 : decode cX10_fits 135 = .ok (.iadd, 1) := by decide +kernel
theorem dX10_fits_136 : decode cX10_fits 136 = .ok (.istore 6, 2) := by decide +kernel
theorem dX10_fits_138 : decode cX10_fits 138 = .ok (.iload 9, 2) := by decide +kernel
theorem dX10_fits_140 : decode cX10_fits 140 = .ok (.ifCond .eq 8, 3) := by decide +kernel
theorem dX10_fits_143 : decode cX10_fits 143 = .ok (.iload 8, 2) := by decide +kernel
theorem dX10_fits_145 : decode cX10_fits 145 = .ok (.goto 5, 3) := by decide +kernel
theorem dX10_fits_148 : decode cX10_fits 148 = .ok (.iload 7, 2) := by decide +kernel
theorem dX10_fits_150 : decode cX10_fits 150 = .ok (.istore 7, 2) := by decide +kernel
theorem dX10_fits_152 : decode cX10_fits 152 = .ok (.iinc 8 (-1), 3) := by decide +kernel
theorem dX10_fits_155 : decode cX10_fits 155 = .ok (.goto (-63), 3) := by decide +kernel
theorem dX10_fits_158 : decode cX10_fits 158 = .ok (.aload_n 0, 1) := by decide +kernel
theorem dX10_fits_159 : decode cX10_fits 159 = .ok (.iload_n 2, 1) := by decide +kernel
theorem dX10_fits_160 : decode cX10_fits 160 = .ok (.iload 4, 2) := by decide +kernel
theorem dX10_fits_162 : decode cX10_fits 162 = .ok (.iload 5, 2) := by decide +kernel
theorem dX10_fits_164 : decode cX10_fits 164 = .ok (.invokevirtual 113, 3) := by decide +kernel
theorem dX10_fits_167 : decode cX10_fits 167 = .ok (.iload_n 3, 1) := by decide +kernel
theorem dX10_fits_168 : decode cX10_fits 168 = .ok (.iconst 2, 1) := by decide +kernel
theorem dX10_fits_169 : decode cX10_fits 169 = .ok (.irem, 1) := by decide +kernel
theorem dX10_fits_170 : decode cX10_fits 170 = .ok (.ifCond .ne 8, 3) := by decide +kernel
theorem dX10_fits_173 : decode cX10_fits 173 = .ok (.iload 6, 2) := by decide +kernel
theorem dX10_fits_175 : decode cX10_fits 175 = .ok (.goto 5, 3) := by decide +kernel
theorem dX10_fits_178 : decode cX10_fits 178 = .ok (.iload 7, 2) := by decide +kernel
theorem dX10_fits_180 : decode cX10_fits 180 = .ok (.ireturn, 1) := by decide +kernel
theorem dX10_upside_0 : decode cX10_upside 0 = .ok (.iload_n 1, 1) := by decide +kernel
theorem dX10_upside_1 : decode cX10_upside 1 = .ok (.iconst 0, 1) := by decide +kernel
theorem dX10_upside_2 : decode cX10_upside 2 = .ok (.iconst 1, 1) := by decide +kernel
theorem dX10_upside_3 : decode cX10_upside 3 = .ok (.invokestatic 106, 3) := by decide +kernel
theorem dX10_upside_6 : decode cX10_upside 6 = .ok (.ifCond .ne 5, 3) := by decide +kernel
theorem dX10_upside_9 : decode cX10_upside 9 = .ok (.iconst (-1), 1) := by decide +kernel
theorem dX10_upside_10 : decode cX10_upside 10 = .ok (.ireturn, 1) := by decide +kernel
theorem dX10_upside_11 : decode cX10_upside 11 = .ok (.aload_n 0, 1) := by decide +kernel
theorem dX10_upside_12 : decode cX10_upside 12 = .ok (.invokevirtual 219, 3) := by decide +kernel
theorem dX10_upside_15 : decode cX10_upside 15 = .ok (.istore_n 2, 1) := by decide +kernel
theorem dX10_upside_16 : decode cX10_upside 16 = .ok (.iconst 0, 1) := by decide +kernel
theorem dX10_upside_17 : decode cX10_upside 17 = .ok (.istore_n 3, 1) := by decide +kernel
theorem dX10_upside_18 : decode cX10_upside 18 = .ok (.iconst 0, 1) := by decide +kernel
theorem dX10_upside_19 : decode cX10_upside 19 = .ok (.istore 4, 2) := by decide +kernel
theorem dX10_upside_21 : decode cX10_upside 21 = .ok (.iload 4, 2) := by decide +kernel
theorem dX10_upside_23 : decode cX10_upside 23 = .ok (.iload_n 2, 1) := by decide +kernel
theorem dX10_upside_24 : decode cX10_upside 24 = .ok (.if_icmp .ge 113, 3) := by decide +kernel
theorem dX10_upside_27 : decode cX10_upside 27 = .ok (.iload 4, 2) := by decide +kernel
theorem dX10_upside_29 : decode cX10_upside 29 = .ok (.iconst 1, 1) := by decide +kernel
theorem dX10_upside_30 : decode cX10_upside 30 = .ok (.iadd, 1) := by decide +kernel
theorem dX10_upside_31 : decode cX10_upside 31 = .ok (.istore 5, 2) := by decide +kernel
theorem dX10_upside_33 : decode cX10_upside 33 = .ok (.iload 5, 2) := by decide +kernel
theorem dX10_upside_35 : decode cX10_upside 35 = .ok (.iload_n 2, 1) := by decide +kernel
theorem dX10_upside_36 : decode cX10_upside 36 = .ok (.if_icmp .ge 95, 3) := by decide +kernel
theorem dX10_upside_39 : decode cX10_upside 39 = .ok (.iload_n 1, 1) := by decide +kernel
theorem dX10_upside_40 : decode cX10_upside 40 = .ok (.ifCond .ne 38, 3) := by decide +kernel
theorem dX10_upside_43 : decode cX10_upside 43 = .ok (.aload_n 0, 1) := by decide +kernel
theorem dX10_upside_44 : decode cX10_upside 44 = .ok (.aload_n 0, 1) := by decide +kernel
theorem dX10_upside_45 : decode cX10_upside 45 = .ok (.getfield 51, 3) := by decide +kernel
theorem dX10_upside_48 : decode cX10_upside 48 = .ok (.iload 5, 2) := by decide +kernel
theorem dX10_upside_50 : decode cX10_upside 50 = .ok (.iaload, 1) := by decide +kernel
theorem dX10_upside_51 : decode cX10_upside 51 = .ok (.iconst 0, 1) := by decide +kernel
theorem dX10_upside_52 : decode cX10_upside 52 = .ok (.invokevirtual 110, 3) := by decide +kernel
theorem dX10_upside_55 : decode cX10_upside 55 = .ok (.aload_n 0, 1) := by decide +kernel
theorem dX10_upside_56 : decode cX10_upside 56 = .ok (.aload_n 0, 1) := by decide +kernel
theorem dX10_upside_57 : decode cX10_upside 57 = .ok (.getfield 51, 3) := by decide +kernel
theorem dX10_upside_60 : decode cX10_upside 60 = .ok (.iload 4, 2) := by decide +kernel
theorem dX10_upside_62 : decode cX10_upside 62 = .ok (.iaload, 1) := by decide +kernel
theorem dX10_upside_63 : decode cX10_upside 63 = .ok (.iconst 0, 1) := by decide +kernel
theorem dX10_upside_64 : decode cX10_upside 64 = .ok (.invokevirtual 110, 3) := by decide +kernel
theorem dX10_upside_67 : decode cX10_upside 67 = .ok (.if_icmp .le 7, 3) := by decide +kernel
theorem dX10_upside_70 : decode cX10_upside 70 = .ok (.iconst 1, 1) := by decide +kernel
theorem dX10_upside_71 : decode cX10_upside 71 = .ok (.goto 39, 3) := by decide +kernel
theorem dX10_upside_74 : decode cX10_upside 74 = .ok (.iconst 0, 1) := by decide +kernel
theorem dX10_upside_75 : decode cX10_upside 75 = .ok (.goto 35, 3) := by decide +kernel
theorem dX10_upside_78 : decode cX10_upside 78 = .ok (.aload_n 0, 1) := by decide +kernel
theorem dX10_upside_79 : decode cX10_upside 79 = .ok (.getfield 54, 3) := by decide +kernel
theorem dX10_upside_82 : decode cX10_upside 82 = .ok (.aload_n 0, 1) := by decide +kernel
theorem dX10_upside_83 : decode cX10_upside 83 = .ok (.getfield 51, 3) := by decide +kernel
theorem dX10_upside_86 : decode cX10_upside 86 = .ok (.iload 4, 2) := by decide +kernel
theorem dX10_upside_88 : decode cX10_upside 88 = .ok (.iaload, 1) := by decide +kernel
theorem dX10_upside_89 : decode cX10_upside 89 = .ok (.iaload, 1) := by decide +kernel
theorem dX10_upside_90 : decode cX10_upside 90 = .ok (.aload_n 0, 1) := by decide +kernel
theorem dX10_upside_91 : decode cX10_upside 91 = .ok (.getfield 54, 3) := by decide +kernel
theorem dX10_upside_94 : decode cX10_upside 94 = .ok (.aload_n 0, 1) := by decide +kernel
theorem dX10_upside_95 : decode cX10_upside 95 = .ok (.getfield 51, 3) := by decide +kernel
theorem dX10_upside_98 : decode cX10_upside 98 = .ok (.iload 5, 2) := by decide +kernel
theorem dX10_upside_100 : decode cX10_upside 100 = .ok (.iaload, 1) := by decide +kernel
theorem dX10_upside_101 : decode cX10_upside 101 = .ok (.iaload, 1) := by decide +kernel
theorem dX10_upside_102 : decode cX10_upside 102 = .ok (.if_icmp .ne 7, 3) := by decide +kernel
theorem dX10_upside_105 : decode cX10_upside 105 = .ok (.iconst 1, 1) := by decide +kernel
theorem dX10_upside_106 : decode cX10_upside 106 = .ok (.goto 4, 3) := by decide +kernel
theorem dX10_upside_109 : decode cX10_upside 109 = .ok (.iconst 0, 1) := by decide +kernel
theorem dX10_upside_110 : decode cX10_upside 110 = .ok (.istore 6, 2) := by decide +kernel
theorem dX10_upside_112 : decode cX10_upside 112 = .ok (.iload_n 3, 1) := by decide +kernel
theorem dX10_upside_113 : decode cX10_upside 113 = .ok (.iload 6, 2) := by decide +kernel
theorem dX10_upside_115 : decode cX10_upside 115 = .ok (.ifCond .eq 7, 3) := by decide +kernel
theorem dX10_upside_118 : decode cX10_upside 118 = .ok (.iconst 1, 1) := by decide +kernel
theorem dX10_upside_119 : decode cX10_upside 119 = .ok (.goto 4, 3) := by decide +kernel
theorem dX10_upside_122 : decode cX10_upside 122 = .ok (.iconst 0, 1) := by decide +kernel
theorem dX10_upside_123 : decode cX10_upside 123 = .ok (.iadd, 1) := by decide +kernel
theorem dX10_upside_124 : decode cX10_upside 124 = .ok (.istore_n 3, 1) := by decide +kernel
theorem dX10_upside_125 : decode cX10_upside 125 = .ok (.iinc 5 1, 3) := by decide +kernel
theorem dX10_upside_128 : decode cX10_upside 128 = .ok (.goto (-95), 3) := by decide +kernel
theorem dX10_upside_131 : decode cX10_upside 131 = .ok (.iinc 4 1, 3) := by decide +kernel
theorem dX10_upside_134 : decode cX10_upside 134 = .ok (.goto (-113), 3) := by decide +kernel
theorem dX10_upside_137 : decode cX10_upside 137 = .ok (.iload_n 3, 1) := by decide +kernel
theorem dX10_upside_138 : decode cX10_upside 138 = .ok (.ireturn, 1) := by decide +kernel
theorem dX10_turns_0 : decode cX10_turns 0 = .ok (.iload_n 3, 1) := by decide +kernel
theorem dX10_turns_1 : decode cX10_turns 1 = .ok (.iload 4, 2) := by decide +kernel
theorem dX10_turns_3 : decode cX10_turns 3 = .ok (.if_icmp .ne 27, 3) := by decide +kernel
theorem dX10_turns_6 : decode cX10_turns 6 = .ok (.aload_n 0, 1) := by decide +kernel
theorem dX10_turns_7 : decode cX10_turns 7 = .ok (.iconst 0, 1) := by decide +kernel
theorem dX10_turns_8 : decode cX10_turns 8 = .ok (.iconst (-1), 1) := by decide +kernel
theorem dX10_turns_9 : decode cX10_turns 9 = .ok (.invokevirtual 241, 3) := by decide +kernel
theorem dX10_turns_12 : decode cX10_turns 12 = .ok (.istore 5, 2) := by decide +kernel
theorem dX10_turns_14 : decode cX10_turns 14 = .ok (.aload_n 0, 1) := by decide +kernel
theorem dX10_turns_15 : decode cX10_turns 15 = .ok (.iload_n 2, 1) := by decide +kernel
theorem dX10_turns_16 : decode cX10_turns 16 = .ok (.iload 5, 2) := by decide +kernel
theorem dX10_turns_18 : decode cX10_turns 18 = .ok (.invokevirtual 244, 3) := by decide +kernel
theorem dX10_turns_21 : decode cX10_turns 21 = .ok (.aload_n 0, 1) := by decide +kernel
theorem dX10_turns_22 : decode cX10_turns 22 = .ok (.iload_n 1, 1) := by decide +kernel
theorem dX10_turns_23 : decode cX10_turns 23 = .ok (.iload 5, 2) := by decide +kernel
theorem dX10_turns_25 : decode cX10_turns 25 = .ok (.invokevirtual 244, 3) := by decide +kernel
theorem dX10_turns_28 : decode cX10_turns 28 = .ok (.isub, 1) := by decide +kernel
theorem dX10_turns_29 : decode cX10_turns 29 = .ok (.ireturn, 1) := by decide +kernel
theorem dX10_turns_30 : decode cX10_turns 30 = .ok (.iload_n 3, 1) := by decide +kernel
theorem dX10_turns_31 : decode cX10_turns 31 = .ok (.iconst 2, 1) := by decide +kernel
theorem dX10_turns_32 : decode cX10_turns 32 = .ok (.irem, 1) := by decide +kernel
theorem dX10_turns_33 : decode cX10_turns 33 = .ok (.ifCond .ne 7, 3) := by decide +kernel
theorem dX10_turns_36 : decode cX10_turns 36 = .ok (.iconst 1, 1) := by decide +kernel
theorem dX10_turns_37 : decode cX10_turns 37 = .ok (.goto 4, 3) := by decide +kernel
theorem dX10_turns_40 : decode cX10_turns 40 = .ok (.iconst 0, 1) := by decide +kernel
theorem dX10_turns_41 : decode cX10_turns 41 = .ok (.istore 5, 2) := by decide +kernel
theorem dX10_turns_43 : decode cX10_turns 43 = .ok (.iload 5, 2) := by decide +kernel
theorem dX10_turns_45 : decode cX10_turns 45 = .ok (.ifCond .eq 7, 3) := by decide +kernel
theorem dX10_turns_48 : decode cX10_turns 48 = .ok (.iload_n 1, 1) := by decide +kernel
theorem dX10_turns_49 : decode cX10_turns 49 = .ok (.goto 4, 3) := by decide +kernel
theorem dX10_turns_52 : decode cX10_turns 52 = .ok (.iload_n 2, 1) := by decide +kernel
theorem dX10_turns_53 : decode cX10_turns 53 = .ok (.istore 6, 2) := by decide +kernel
theorem dX10_turns_55 : decode cX10_turns 55 = .ok (.aload_n 0, 1) := by decide +kernel
theorem dX10_turns_56 : decode cX10_turns 56 = .ok (.iload 6, 2) := by decide +kernel
theorem dX10_turns_58 : decode cX10_turns 58 = .ok (.iconst 2, 1) := by decide +kernel
theorem dX10_turns_59 : decode cX10_turns 59 = .ok (.invokevirtual 110, 3) := by decide +kernel
theorem dX10_turns_62 : decode cX10_turns 62 = .ok (.istore 7, 2) := by decide +kernel
theorem dX10_turns_64 : decode cX10_turns 64 = .ok (.iload 5, 2) := by decide +kernel
theorem dX10_turns_66 : decode cX10_turns 66 = .ok (.ifCond .eq 9, 3) := by decide +kernel
theorem dX10_turns_69 : decode cX10_turns 69 = .ok (.ldc_w 268, 3) := by decide +kernel
theorem dX10_turns_72 : decode cX10_turns 72 = .ok (.goto 6, 3) := by decide +kernel
theorem dX10_turns_75 : decode cX10_turns 75 = .ok (.ldc_w 269, 3) := by decide +kernel
theorem dX10_turns_78 : decode cX10_turns 78 = .ok (.istore 8, 2) := by decide +kernel
theorem dX10_turns_80 : decode cX10_turns 80 = .ok (.iconst 2, 1) := by decide +kernel
theorem dX10_turns_81 : decode cX10_turns 81 = .ok (.istore 9, 2) := by decide +kernel
theorem dX10_turns_83 : decode cX10_turns 83 = .ok (.iconst 0, 1) := by decide +kernel
theorem dX10_turns_84 : decode cX10_turns 84 = .ok (.istore 10, 2) := by decide +kernel
theorem dX10_turns_86 : decode cX10_turns 86 = .ok (.iload 10, 2) := by decide +kernel
theorem dX10_turns_88 : decode cX10_turns 88 = .ok (.iconst 3, 1) := by decide +kernel
theorem dX10_turns_89 : decode cX10_turns 89 = .ok (.if_icmp .ge 142, 3) := by decide +kernel
theorem dX10_turns_92 : decode cX10_turns 92 = .ok (.iload 10, 2) := by decide +kernel
theorem dX10_turns_94 : decode cX10_turns 94 = .ok (.ifCond .ne 7, 3) := by decide +kernel
theorem dX10_turns_97 : decode cX10_turns 97 = .ok (.iconst 2, 1) := by decide +kernel
theorem dX10_turns_98 : decode cX10_turns 98 = .ok (.goto 7, 3) := by decide +kernel
theorem dX10_turns_101 : decode cX10_turns 101 = .ok (.iload 10, 2) := by decide +kernel
theorem dX10_turns_103 : decode cX10_turns 103 = .ok (.iconst 1, 1) := by decide +kernel
theorem dX10_turns_104 : decode cX10_turns 104 = .ok (.isub, 1) := by decide +kernel
theorem dX10_turns_105 : decode cX10_turns 105 = .ok (.istore 11, 2) := by decide +kernel
theorem dX10_turns_107 : decode cX10_turns 107 = .ok (.aload_n 0, 1) := by decide +kernel
theorem dX10_turns_108 : decode cX10_turns 108 = .ok (.iload 6, 2) := by decide +kernel
theorem dX10_turns_110 : decode cX10_turns 110 = .ok (.iconst 2, 1) := by decide +kernel
theorem dX10_turns_111 : decode cX10_turns 111 = .ok (.iload 11, 2) := by decide +kernel
theorem dX10_turns_113 : decode cX10_turns 113 = .ok (.iconst 2, 1) := by decide +kernel
theorem dX10_turns_114 : decode cX10_turns 114 = .ok (.if_icmp .ne 8, 3) := by decide +kernel
theorem dX10_turns_117 : decode cX10_turns 117 = .ok (.iload 7, 2) := by decide +kernel
theorem dX10_turns_119 : decode cX10_turns 119 = .ok (.goto 28, 3) := by decide +kernel
theorem dX10_turns_122 : decode cX10_turns 122 = .ok (.iload 11, 2) := by decide +kernel
theorem dX10_turns_124 : decode cX10_turns 124 = .ok (.ifCond .ne 15, 3) := by decide +kernel
theorem dX10_turns_127 : decode cX10_turns 127 = .ok (.bipush 9, 2) := by decide +kernel
theorem dX10_turns_129 : decode cX10_turns 129 = .ok (.iload 7, 2) := by decide +kernel
theorem dX10_turns_131 : decode cX10_turns 131 = .ok (.iconst 2, 1) := by decide +kernel
theorem dX10_turns_132 : decode cX10_turns 132 = .ok (.iadd, 1) := by decide +kernel
theorem dX10_turns_133 : decode cX10_turns 133 = .ok (.invokestatic 94, 3) := by decide +kernel
theorem dX10_turns_136 : decode cX10_turns 136 = .ok (.goto 11, 3) := by decide +kernel
theorem dX10_turns_139 : decode cX10_turns 139 = .ok (.iconst 0, 1) := by decide +kernel
theorem dX10_turns_140 : decode cX10_turns 140 = .ok (.iload 7, 2) := by decide +kernel
theorem dX10_turns_142 : decode cX10_turns 142 = .ok (.iconst 2, 1) := by decide +kernel
theorem dX10_turns_143 : decode cX10_turns 143 = .ok (.isub, 1) := by decide +kernel
theorem dX10_turns_144 : decode cX10_turns 144 = .ok (.invokestatic 100, 3) := by decide +kernel
theorem dX10_turns_147 : decode cX10_turns 147 = .ok (.invokevirtual 113, 3) := by decide +kernel
theorem dX10_turns_150 : decode cX10_turns 150 = .ok (.aload_n 0, 1) := by decide +kernel
theorem dX10_turns_151 : decode cX10_turns 151 = .ok (.iload_n 1, 1) := by decide +kernel
theorem dX10_turns_152 : decode cX10_turns 152 = .ok (.iload_n 2, 1) := by decide +kernel
theorem dX10_turns_153 : decode cX10_turns 153 = .ok (.iload_n 3, 1) := by decide +kernel
theorem dX10_turns_154 : decode cX10_turns 154 = .ok (.iconst 1, 1) := by decide +kernel
theorem dX10_turns_155 : decode cX10_turns 155 = .ok (.iadd, 1) := by decide +kernel
theorem dX10_turns_156 : decode cX10_turns 156 = .ok (.iload 4, 2) := by decide +kernel
theorem dX10_turns_158 : decode cX10_turns 158 = .ok (.invokevirtual 270, 3) := by decide +kernel
theorem dX10_turns_161 : decode cX10_turns 161 = .ok (.istore 12, 2) := by decide +kernel
theorem dX10_turns_163 : decode cX10_turns 163 = .ok (.iload 5, 2) := by decide +kernel
theorem dX10_turns_165 : decode cX10_turns 165 = .ok (.ifCond .eq 18, 3) := by decide +kernel
theorem dX10_turns_168 : decode cX10_turns 168 = .ok (.iload 12, 2) := by decide +kernel
theorem dX10_turns_170 : decode cX10_turns 170 = .ok (.iload 8, 2) := by decide +kernel
theorem dX10_turns_172 : decode cX10_turns 172 = .ok (.if_icmp .le 7, 3) := by decide +kernel
theorem dX10_turns_175 : decode cX10_turns 175 = .ok (.iconst 1, 1) := by decide +kernel
theorem dX10_turns_176 : decode cX10_turns 176 = .ok (.goto 19, 3) := by decide +kernel
theorem dX10_turns_179 : decode cX10_turns 179 = .ok (.iconst 0, 1) := by decide +kernel
theorem dX10_turns_180 : decode cX10_turns 180 = .ok (.goto 15, 3) := by decide +kernel
theorem dX10_turns_183 : decode cX10_turns 183 = .ok (.iload 12, 2) := by decide +kernel
theorem dX10_turns_185 : decode cX10_turns 185 = .ok (.iload 8, 2) := by decide +kernel
theorem dX10_turns_187 : decode cX10_turns 187 = .ok (.if_icmp .ge 7, 3) := by decide +kernel
theorem dX10_turns_190 : decode cX10_turns 190 = .ok (.iconst 1, 1) := by decide +kernel
theorem dX10_turns_191 : decode cX10_turns 191 = .ok (.goto 4, 3) := by decide +kernel
theorem dX10_turns_194 : decode cX10_turns 194 = .ok (.iconst 0, 1) := by decide +kernel
theorem dX10_turns_195 : decode cX10_turns 195 = .ok (.istore 13, 2) := by decide +kernel
theorem dX10_turns_197 : decode cX10_turns 197 = .ok (.iload 13, 2) := by decide +kernel
theorem dX10_turns_199 : decode cX10_turns 199 = .ok (.ifCond .eq 8, 3) := by decide +kernel
theorem dX10_turns_202 : decode cX10_turns 202 = .ok (.iload 11, 2) := by decide +kernel
theorem dX10_turns_204 : decode cX10_turns 204 = .ok (.goto 5, 3) := by decide +kernel
theorem dX10_turns_207 : decode cX10_turns 207 = .ok (.iload 9, 2) := by decide +kernel
theorem dX10_turns_209 : decode cX10_turns 209 = .ok (.istore 9, 2) := by decide +kernel
theorem dX10_turns_211 : decode cX10_turns 211 = .ok (.iload 13, 2) := by decide +kernel
theorem dX10_turns_213 : decode cX10_turns 213 = .ok (.ifCond .eq 8, 3) := by decide +kernel
theorem dX10_turns_216 : decode cX10_turns 216 = .ok (.iload 12, 2) := by decide +kernel
theorem dX10_turns_218 : decode cX10_turns 218 = .ok (.goto 5, 3) := by decide +kernel
theorem dX10_turns_221 : decode cX10_turns 221 = .ok (.iload 8, 2) := by decide +kernel
theorem dX10_turns_223 : decode cX10_turns 223 = .ok (.istore 8, 2) := by decide +kernel
theorem dX10_turns_225 : decode cX10_turns 225 = .ok (.iinc 10 1, 3) := by decide +kernel
theorem dX10_turns_228 : decode cX10_turns 228 = .ok (.goto (-142), 3) := by decide +kernel
theorem dX10_turns_231 : decode cX10_turns 231 = .ok (.aload_n 0, 1) := by decide +kernel
theorem dX10_turns_232 : decode cX10_turns 232 = .ok (.iload 6, 2) := by decide +kernel
theorem dX10_turns_234 : decode cX10_turns 234 = .ok (.iconst 2, 1) := by decide +kernel
theorem dX10_turns_235 : decode cX10_turns 235 = .ok (.iload 7, 2) := by decide +kernel
theorem dX10_turns_237 : decode cX10_turns 237 = .ok (.invokevirtual 113, 3) := by decide +kernel
theorem dX10_turns_240 : decode cX10_turns 240 = .ok (.aload_n 0, 1) := by decide +kernel
theorem dX10_turns_241 : decode cX10_turns 241 = .ok (.iload 9, 2) := by decide +kernel
theorem dX10_turns_243 : decode cX10_turns 243 = .ok (.putfield 274, 3) := by decide +kernel
theorem dX10_turns_246 : decode cX10_turns 246 = .ok (.iload 8, 2) := by decide +kernel
theorem dX10_turns_248 : decode cX10_turns 248 = .ok (.ireturn, 1) := by decide +kernel
theorem dX10_byTurns_0 : decode cX10_byTurns 0 = .ok (.iload_n 1, 1) := by decide +kernel
theorem dX10_byTurns_1 : decode cX10_byTurns 1 = .ok (.ifCond .lt 76, 3) := by decide +kernel
theorem dX10_byTurns_4 : decode cX10_byTurns 4 = .ok (.aload_n 0, 1) := by decide +kernel
theorem dX10_byTurns_5 : decode cX10_byTurns 5 = .ok (.iload_n 1, 1) := by decide +kernel
theorem dX10_byTurns_6 : decode cX10_byTurns 6 = .ok (.bipush 10, 2) := by decide +kernel
theorem dX10_byTurns_8 : decode cX10_byTurns 8 = .ok (.idiv, 1) := by decide +kernel
theorem dX10_byTurns_9 : decode cX10_byTurns 9 = .ok (.invokevirtual 124, 3) := by decide +kernel
theorem dX10_byTurns_12 : decode cX10_byTurns 12 = .ok (.ifCond .eq 65, 3) := by decide +kernel
theorem dX10_byTurns_15 : decode cX10_byTurns 15 = .ok (.aload_n 0, 1) := by decide +kernel
theorem dX10_byTurns_16 : decode cX10_byTurns 16 = .ok (.iload_n 1, 1) := by decide +kernel
theorem dX10_byTurns_17 : decode cX10_byTurns 17 = .ok (.bipush 10, 2) := by decide +kernel
theorem dX10_byTurns_19 : decode cX10_byTurns 19 = .ok (.irem, 1) := by decide +kernel
theorem dX10_byTurns_20 : decode cX10_byTurns 20 = .ok (.invokevirtual 124, 3) := by decide +kernel
theorem dX10_byTurns_23 : decode cX10_byTurns 23 = .ok (.ifCond .eq 54, 3) := by decide +kernel
theorem dX10_byTurns_26 : decode cX10_byTurns 26 = .ok (.iload_n 1, 1) := by decide +kernel
theorem dX10_byTurns_27 : decode cX10_byTurns 27 = .ok (.bipush 10, 2) := by decide +kernel
theorem dX10_byTurns_29 : decode cX10_byTurns 29 = .ok (.idiv, 1) := by decide +kernel
theorem dX10_byTurns_30 : decode cX10_byTurns 30 = .ok (.iload_n 1, 1) := by decide +kernel
theorem dX10_byTurns_31 : decode cX10_byTurns 31 = .ok (.bipush 10, 2) := by decide +kernel
theorem dX10_byTurns_33 : decode cX10_byTurns 33 = .ok (.irem, 1) := by decide +kernel
theorem dX10_byTurns_34 : decode cX10_byTurns 34 = .ok (.if_icmp .eq 43, 3) := by decide +kernel
theorem dX10_byTurns_37 : decode cX10_byTurns 37 = .ok (.aload_n 0, 1) := by decide +kernel
theorem dX10_byTurns_38 : decode cX10_byTurns 38 = .ok (.iload_n 1, 1) := by decide +kernel
theorem dX10_byTurns_39 : decode cX10_byTurns 39 = .ok (.bipush 10, 2) := by decide +kernel
theorem dX10_byTurns_41 : decode cX10_byTurns 41 = .ok (.idiv, 1) := by decide +kernel
theorem dX10_byTurns_42 : decode cX10_byTurns 42 = .ok (.invokevirtual 197, 3) := by decide +kernel
theorem dX10_byTurns_45 : decode cX10_byTurns 45 = .ok (.ifCond .eq 32, 3) := by decide +kernel
theorem dX10_byTurns_48 : decode cX10_byTurns 48 = .ok (.aload_n 0, 1) := by decide +kernel
theorem dX10_byTurns_49 : decode cX10_byTurns 49 = .ok (.iload_n 1, 1) := by decide +kernel
theorem dX10_byTurns_50 : decode cX10_byTurns 50 = .ok (.bipush 10, 2) := by decide +kernel
theorem dX10_byTurns_52 : decode cX10_byTurns 52 = .ok (.irem, 1) := by decide +kernel
theorem dX10_byTurns_53 : decode cX10_byTurns 53 = .ok (.invokevirtual 197, 3) := by decide +kernel
theorem dX10_byTurns_56 : decode cX10_byTurns 56 = .ok (.ifCond .eq 21, 3) := by decide +kernel
theorem dX10_byTurns_59 : decode cX10_byTurns 59 = .ok (.iload_n 2, 1) := by decide +kernel
theorem dX10_byTurns_60 : decode cX10_byTurns 60 = .ok (.iconst 1, 1) := by decide +kernel
theorem dX10_byTurns_61 : decode cX10_byTurns 61 = .ok (.iconst 5, 1) := by decide +kernel
theorem dX10_byTurns_62 : decode cX10_byTurns 62 = .ok (.invokestatic 106, 3) := by decide +kernel
theorem dX10_byTurns_65 : decode cX10_byTurns 65 = .ok (.ifCond .eq 12, 3) := by decide +kernel
theorem dX10_byTurns_68 : decode cX10_byTurns 68 = .ok (.iload_n 3, 1) := by decide +kernel
theorem dX10_byTurns_69 : decode cX10_byTurns 69 = .ok (.iconst 0, 1) := by decide +kernel
theorem dX10_byTurns_70 : decode cX10_byTurns 70 = .ok (.iconst 1, 1) := by decide +kernel
theorem dX10_byTurns_71 : decode cX10_byTurns 71 = .ok (.invokestatic 106, 3) := by decide +kernel
theorem dX10_byTurns_74 : decode cX10_byTurns 74 = .ok (.ifCond .ne 7, 3) := by decide +kernel
theorem dX10_byTurns_77 : decode cX10_byTurns 77 = .ok (.ldc_w 277, 3) := by decide +kernel
theorem dX10_byTurns_80 : decode cX10_byTurns 80 = .ok (.ireturn, 1) := by decide +kernel
theorem dX10_byTurns_81 : decode cX10_byTurns 81 = .ok (.aload_n 0, 1) := by decide +kernel
theorem dX10_byTurns_82 : decode cX10_byTurns 82 = .ok (.iload_n 1, 1) := by decide +kernel
theorem dX10_byTurns_83 : decode cX10_byTurns 83 = .ok (.bipush 10, 2) := by decide +kernel
theorem dX10_byTurns_85 : decode cX10_byTurns 85 = .ok (.idiv, 1) := by decide +kernel
theorem dX10_byTurns_86 : decode cX10_byTurns 86 = .ok (.iload_n 1, 1) := by decide +kernel
theorem dX10_byTurns_87 : decode cX10_byTurns 87 = .ok (.bipush 10, 2) := by decide +kernel
theorem dX10_byTurns_89 : decode cX10_byTurns 89 = .ok (.irem, 1) := by decide +kernel
theorem dX10_byTurns_90 : decode cX10_byTurns 90 = .ok (.iconst 0, 1) := by decide +kernel
theorem dX10_byTurns_91 : decode cX10_byTurns 91 = .ok (.iload_n 2, 1) := by decide +kernel
theorem dX10_byTurns_92 : decode cX10_byTurns 92 = .ok (.invokevirtual 270, 3) := by decide +kernel
theorem dX10_byTurns_95 : decode cX10_byTurns 95 = .ok (.istore 4, 2) := by decide +kernel
theorem dX10_byTurns_97 : decode cX10_byTurns 97 = .ok (.iload_n 3, 1) := by decide +kernel
theorem dX10_byTurns_98 : decode cX10_byTurns 98 = .ok (.ifCond .ne 8, 3) := by decide +kernel
theorem dX10_byTurns_101 : decode cX10_byTurns 101 = .ok (.iload 4, 2) := by decide +kernel
theorem dX10_byTurns_103 : decode cX10_byTurns 103 = .ok (.goto 7, 3) := by decide +kernel
theorem dX10_byTurns_106 : decode cX10_byTurns 106 = .ok (.aload_n 0, 1) := by decide +kernel
theorem dX10_byTurns_107 : decode cX10_byTurns 107 = .ok (.getfield 274, 3) := by decide +kernel
theorem dX10_byTurns_110 : decode cX10_byTurns 110 = .ok (.ireturn, 1) := by decide +kernel
theorem dX10_drawn_0 : decode cX10_drawn 0 = .ok (.iload_n 2, 1) := by decide +kernel
theorem dX10_drawn_1 : decode cX10_drawn 1 = .ok (.bipush 100, 2) := by decide +kernel
theorem dX10_drawn_3 : decode cX10_drawn 3 = .ok (.idiv, 1) := by decide +kernel
theorem dX10_drawn_4 : decode cX10_drawn 4 = .ok (.bipush 100, 2) := by decide +kernel
theorem dX10_drawn_6 : decode cX10_drawn 6 = .ok (.irem, 1) := by decide +kernel
theorem dX10_drawn_7 : decode cX10_drawn 7 = .ok (.istore 4, 2) := by decide +kernel
theorem dX10_drawn_9 : decode cX10_drawn 9 = .ok (.iload_n 2, 1) := by decide +kernel
theorem dX10_drawn_10 : decode cX10_drawn 10 = .ok (.bipush 100, 2) := by decide +kernel
theorem dX10_drawn_12 : decode cX10_drawn 12 = .ok (.irem, 1) := by decide +kernel
theorem dX10_drawn_13 : decode cX10_drawn 13 = .ok (.istore 5, 2) := by decide +kernel
theorem dX10_drawn_15 : decode cX10_drawn 15 = .ok (.iload_n 2, 1) := by decide +kernel
theorem dX10_drawn_16 : decode cX10_drawn 16 = .ok (.ifCond .lt 53, 3) := by decide +kernel
theorem dX10_drawn_19 : decode cX10_drawn 19 = .ok (.iload_n 2, 1) := by decide +kernel
theorem dX10_drawn_20 : decode cX10_drawn 20 = .ok (.sipush 10000, 3) := by decide +kernel
theorem dX10_drawn_23 : decode cX10_drawn 23 = .ok (.idiv, 1) := by decide +kernel
theorem dX10_drawn_24 : decode cX10_drawn 24 = .ok (.iconst 1, 1) := by decide +kernel
theorem dX10_drawn_25 : decode cX10_drawn 25 = .ok (.bipush 30, 2) := by decide +kernel
theorem dX10_drawn_27 : decode cX10_drawn 27 = .ok (.invokestatic 106, 3) := by decide +kernel
theorem dX10_drawn_30 : decode cX10_drawn 30 = .ok (.ifCond .eq 39, 3) := by decide +kernel
theorem dX10_drawn_33 : decode cX10_drawn 33 = .ok (.iload 4, 2) := by decide +kernel
theorem dX10_drawn_35 : decode cX10_drawn 35 = .ok (.iconst 1, 1) := by decide +kernel
theorem dX10_drawn_36 : decode cX10_drawn 36 = .ok (.bipush 60, 2) := by decide +kernel
theorem dX10_drawn_38 : decode cX10_drawn 38 = .ok (.invokestatic 106, 3) := by decide +kernel
theorem dX10_drawn_41 : decode cX10_drawn 41 = .ok (.ifCond .eq 28, 3) := by decide +kernel
theorem dX10_drawn_44 : decode cX10_drawn 44 = .ok (.iload 5, 2) := by decide +kernel
theorem dX10_drawn_46 : decode cX10_drawn 46 = .ok (.iconst 0, 1) := by decide +kernel
theorem dX10_drawn_47 : decode cX10_drawn 47 = .ok (.bipush 12, 2) := by decide +kernel
theorem dX10_drawn_49 : decode cX10_drawn 49 = .ok (.invokestatic 106, 3) := by decide +kernel
theorem dX10_drawn_52 : decode cX10_drawn 52 = .ok (.ifCond .eq 17, 3) := by decide +kernel
theorem dX10_drawn_55 : decode cX10_drawn 55 = .ok (.iload_n 3, 1) := by decide +kernel
theorem dX10_drawn_56 : decode cX10_drawn 56 = .ok (.iconst (-1), 1) := by decide +kernel
theorem dX10_drawn_57 : decode cX10_drawn 57 = .ok (.aload_n 0, 1) := by decide +kernel
theorem dX10_drawn_58 : decode cX10_drawn 58 = .ok (.getfield 103, 3) := by decide +kernel
theorem dX10_drawn_61 : decode cX10_drawn 61 = .ok (.iconst 1, 1) := by decide +kernel
theorem dX10_drawn_62 : decode cX10_drawn 62 = .ok (.isub, 1) := by decide +kernel
theorem dX10_drawn_63 : decode cX10_drawn 63 = .ok (.invokestatic 106, 3) := by decide +kernel
theorem dX10_drawn_66 : decode cX10_drawn 66 = .ok (.ifCond .ne 5, 3) := by decide +kernel
theorem dX10_drawn_69 : decode cX10_drawn 69 = .ok (.iconst (-1), 1) := by decide +kernel
theorem dX10_drawn_70 : decode cX10_drawn 70 = .ok (.ireturn, 1) := by decide +kernel
theorem dX10_drawn_71 : decode cX10_drawn 71 = .ok (.iload_n 1, 1) := by decide +kernel
theorem dX10_drawn_72 : decode cX10_drawn 72 = .ok (.istore 6, 2) := by decide +kernel
theorem dX10_drawn_74 : decode cX10_drawn 74 = .ok (.iconst 0, 1) := by decide +kernel
theorem dX10_drawn_75 : decode cX10_drawn 75 = .ok (.istore 7, 2) := by decide +kernel
theorem dX10_drawn_77 : decode cX10_drawn 77 = .ok (.iconst 0, 1) := by decide +kernel
theorem dX10_drawn_78 : decode cX10_drawn 78 = .ok (.istore 8, 2) := by decide +kernel
theorem dX10_drawn_80 : decode cX10_drawn 80 = .ok (.iload 8, 2) := by decide +kernel
theorem dX10_drawn_82 : decode cX10_drawn 82 = .ok (.iload_n 2, 1) := by decide +kernel
