theorem d_M_init_0 : dI prog_8_method_1_code 0 (.aload_n 0) 1 1 := by decide +kernel
theorem d_M_init_1 : dI prog_8_method_1_code 1 (.invokespecial 1) 3 4 := by decide +kernel
theorem d_M_init_4 : dI prog_8_method_1_code 4 (.aload_n 0) 1 5 := by decide +kernel
theorem d_M_init_5 : dI prog_8_method_1_code 5 (.bipush 92) 2 7 ∧ (Int8.ofInt 92).toInt32 = 92 := by decide +kernel
theorem d_M_init_7 : dI prog_8_method_1_code 7 (.newarray .int) 2 9 := by decide +kernel
theorem d_M_init_9 : dI prog_8_method_1_code 9 (.putfield 7) 3 12 := by decide +kernel
theorem d_M_init_12 : dI prog_8_method_1_code 12 (.aload_n 0) 1 13 := by decide +kernel
theorem d_M_init_13 : dI prog_8_method_1_code 13 (.bipush 92) 2 15 ∧ (Int8.ofInt 92).toInt32 = 92 := by decide +kernel
theorem d_M_init_15 : dI prog_8_method_1_code 15 (.newarray .int) 2 17 := by decide +kernel
theorem d_M_init_17 : dI prog_8_method_1_code 17 (.putfield 13) 3 20 := by decide +kernel
theorem d_M_init_20 : dI prog_8_method_1_code 20 (.aload_n 0) 1 21 := by decide +kernel
theorem d_M_init_21 : dI prog_8_method_1_code 21 (.bipush 92) 2 23 ∧ (Int8.ofInt 92).toInt32 = 92 := by decide +kernel
theorem d_M_init_23 : dI prog_8_method_1_code 23 (.newarray .int) 2 25 := by decide +kernel
theorem d_M_init_25 : dI prog_8_method_1_code 25 (.putfield 16) 3 28 := by decide +kernel
theorem d_M_init_28 : dI prog_8_method_1_code 28 (.aload_n 0) 1 29 := by decide +kernel
theorem d_M_init_29 : dI prog_8_method_1_code 29 (.bipush 7) 2 31 ∧ (Int8.ofInt 7).toInt32 = 7 := by decide +kernel
theorem d_M_init_31 : dI prog_8_method_1_code 31 (.newarray .int) 2 33 := by decide +kernel
theorem d_M_init_33 : dI prog_8_method_1_code 33 (.putfield 19) 3 36 := by decide +kernel
theorem d_M_init_36 : dI prog_8_method_1_code 36 (.aload_n 0) 1 37 := by decide +kernel
theorem d_M_init_37 : dI prog_8_method_1_code 37 (.bipush 120) 2 39 ∧ (Int8.ofInt 120).toInt32 = 120 := by decide +kernel
theorem d_M_init_39 : dI prog_8_method_1_code 39 (.newarray .int) 2 41 := by decide +kernel
theorem d_M_init_41 : dI prog_8_method_1_code 41 (.putfield 22) 3 44 := by decide +kernel
theorem d_M_init_44 : dI prog_8_method_1_code 44 (.aload_n 0) 1 45 := by decide +kernel
theorem d_M_init_45 : dI prog_8_method_1_code 45 (.iconst 3) 1 46 ∧ Int32.ofInt 3 = 3 := by decide +kernel
theorem d_M_init_46 : dI prog_8_method_1_code 46 (.newarray .int) 2 48 := by decide +kernel
theorem d_M_init_48 : dI prog_8_method_1_code 48 (.putfield 25) 3 51 := by decide +kernel
theorem d_M_init_51 : dI prog_8_method_1_code 51 (.aload_n 0) 1 52 := by decide +kernel
theorem d_M_init_52 : dI prog_8_method_1_code 52 (.iconst 4) 1 53 ∧ Int32.ofInt 4 = 4 := by decide +kernel
theorem d_M_init_53 : dI prog_8_method_1_code 53 (.newarray .int) 2 55 := by decide +kernel
theorem d_M_init_55 : dI prog_8_method_1_code 55 (.putfield 28) 3 58 := by decide +kernel
theorem d_M_init_58 : dI prog_8_method_1_code 58 (.aload_n 0) 1 59 := by decide +kernel
theorem d_M_init_59 : dI prog_8_method_1_code 59 (.iconst 4) 1 60 ∧ Int32.ofInt 4 = 4 := by decide +kernel
theorem d_M_init_60 : dI prog_8_method_1_code 60 (.newarray .int) 2 62 := by decide +kernel
theorem d_M_init_62 : dI prog_8_method_1_code 62 (.putfield 31) 3 65 := by decide +kernel
theorem d_M_init_65 : dI prog_8_method_1_code 65 (.aload_n 0) 1 66 := by decide +kernel
theorem d_M_init_66 : dI prog_8_method_1_code 66 (.sipush 160) 3 69 ∧ (Int16.ofInt 160).toInt32 = 160 := by decide +kernel
theorem d_M_init_69 : dI prog_8_method_1_code 69 (.newarray .int) 2 71 := by decide +kernel
theorem d_M_init_71 : dI prog_8_method_1_code 71 (.putfield 34) 3 74 := by decide +kernel
theorem d_M_init_74 : dI prog_8_method_1_code 74 (.aload_n 0) 1 75 := by decide +kernel
theorem d_M_init_75 : dI prog_8_method_1_code 75 (.bipush 40) 2 77 ∧ (Int8.ofInt 40).toInt32 = 40 := by decide +kernel
theorem d_M_init_77 : dI prog_8_method_1_code 77 (.newarray .int) 2 79 := by decide +kernel
theorem d_M_init_79 : dI prog_8_method_1_code 79 (.putfield 37) 3 82 := by decide +kernel
theorem d_M_init_82 : dI prog_8_method_1_code 82 (.aload_n 0) 1 83 := by decide +kernel
theorem d_M_init_83 : dI prog_8_method_1_code 83 (.getfield 7) 3 86 := by decide +kernel
theorem d_M_init_86 : dI prog_8_method_1_code 86 (.iconst 0) 1 87 ∧ Int32.ofInt 0 = 0 := by decide +kernel
theorem d_M_init_87 : dI prog_8_method_1_code 87 (.bipush 20) 2 89 ∧ (Int8.ofInt 20).toInt32 = 20 := by decide +kernel
theorem d_M_init_89 : dI prog_8_method_1_code 89 .iastore 1 90 := by decide +kernel
theorem d_M_init_90 : dI prog_8_method_1_code 90 (.aload_n 0) 1 91 := by decide +kernel
theorem d_M_init_91 : dI prog_8_method_1_code 91 (.getfield 7) 3 94 := by decide +kernel
theorem d_M_init_94 : dI prog_8_method_1_code 94 (.iconst 2) 1 95 ∧ Int32.ofInt 2 = 2 := by decide +kernel
theorem d_M_init_95 : dI prog_8_method_1_code 95 (.bipush 20) 2 97 ∧ (Int8.ofInt 20).toInt32 = 20 := by decide +kernel
theorem d_M_init_97 : dI prog_8_method_1_code 97 .iastore 1 98 := by decide +kernel
theorem d_M_init_98 : dI prog_8_method_1_code 98 (.aload_n 0) 1 99 := by decide +kernel
theorem d_M_init_99 : dI prog_8_method_1_code 99 (.getfield 7) 3 102 := by decide +kernel
theorem d_M_init_102 : dI prog_8_method_1_code 102 (.iconst 4) 1 103 ∧ Int32.ofInt 4 = 4 := by decide +kernel
theorem d_M_init_103 : dI prog_8_method_1_code 103 (.iconst 2) 1 104 ∧ Int32.ofInt 2 = 2 := by decide +kernel
theorem d_M_init_104 : dI prog_8_method_1_code 104 .iastore 1 105 := by decide +kernel
theorem d_M_init_105 : dI prog_8_method_1_code 105 (.aload_n 0) 1 106 := by decide +kernel
theorem d_M_init_106 : dI prog_8_method_1_code 106 (.getfield 7) 3 109 := by decide +kernel
theorem d_M_init_109 : dI prog_8_method_1_code 109 (.iconst 5) 1 110 ∧ Int32.ofInt 5 = 5 := by decide +kernel
theorem d_M_init_110 : dI prog_8_method_1_code 110 (.iconst 4) 1 111 ∧ Int32.ofInt 4 = 4 := by decide +kernel
theorem d_M_init_111 : dI prog_8_method_1_code 111 .iastore 1 112 := by decide +kernel
theorem d_M_init_112 : dI prog_8_method_1_code 112 (.aload_n 0) 1 113 := by decide +kernel
theorem d_M_init_113 : dI prog_8_method_1_code 113 (.getfield 7) 3 116 := by decide +kernel
theorem d_M_init_116 : dI prog_8_method_1_code 116 (.bipush 6) 2 118 ∧ (Int8.ofInt 6).toInt32 = 6 := by decide +kernel
theorem d_M_init_118 : dI prog_8_method_1_code 118 (.sipush 900) 3 121 ∧ (Int16.ofInt 900).toInt32 = 900 := by decide +kernel
theorem d_M_init_121 : dI prog_8_method_1_code 121 .iastore 1 122 := by decide +kernel
theorem d_M_init_122 : dI prog_8_method_1_code 122 (.aload_n 0) 1 123 := by decide +kernel
theorem d_M_init_123 : dI prog_8_method_1_code 123 (.getfield 7) 3 126 := by decide +kernel
theorem d_M_init_126 : dI prog_8_method_1_code 126 (.bipush 10) 2 128 ∧ (Int8.ofInt 10).toInt32 = 10 := by decide +kernel
theorem d_M_init_128 : dI prog_8_method_1_code 128 (.iconst 1) 1 129 ∧ Int32.ofInt 1 = 1 := by decide +kernel
theorem d_M_init_129 : dI prog_8_method_1_code 129 .iastore 1 130 := by decide +kernel
theorem d_M_init_130 : dI prog_8_method_1_code 130 (.iconst 0) 1 131 ∧ Int32.ofInt 0 = 0 := by decide +kernel
theorem d_M_init_131 : dI prog_8_method_1_code 131 (.istore_n 1) 1 132 := by decide +kernel
theorem d_M_init_132 : dI prog_8_method_1_code 132 (.iload_n 1) 1 133 := by decide +kernel
theorem d_M_init_133 : dI prog_8_method_1_code 133 (.bipush 40) 2 135 ∧ (Int8.ofInt 40).toInt32 = 40 := by decide +kernel
theorem d_M_init_135 : dJ prog_8_method_1_code 135 (.if_icmp .ge 20) 20 138 155 := by decide +kernel
theorem d_M_init_138 : dI prog_8_method_1_code 138 (.aload_n 0) 1 139 := by decide +kernel
theorem d_M_init_139 : dI prog_8_method_1_code 139 (.getfield 7) 3 142 := by decide +kernel
theorem d_M_init_142 : dI prog_8_method_1_code 142 (.bipush 12) 2 144 ∧ (Int8.ofInt 12).toInt32 = 12 := by decide +kernel
theorem d_M_init_144 : dI prog_8_method_1_code 144 (.iload_n 1) 1 145 := by decide +kernel
theorem d_M_init_145 : dI prog_8_method_1_code 145 .iadd 1 146 := by decide +kernel
theorem d_M_init_146 : dI prog_8_method_1_code 146 (.bipush 50) 2 148 ∧ (Int8.ofInt 50).toInt32 = 50 := by decide +kernel
theorem d_M_init_148 : dI prog_8_method_1_code 148 .iastore 1 149 := by decide +kernel
theorem d_M_init_149 : dI prog_8_method_1_code 149 (.iinc 1 1) 3 152 ∧ Int32.ofInt 1 = 1 := by decide +kernel
theorem d_M_init_152 : dJ prog_8_method_1_code 152 (.goto (-20)) (-20) 155 132 := by decide +kernel
theorem d_M_init_155 : dI prog_8_method_1_code 155 (.iconst 0) 1 156 ∧ Int32.ofInt 0 = 0 := by decide +kernel
theorem d_M_init_156 : dI prog_8_method_1_code 156 (.istore_n 1) 1 157 := by decide +kernel
theorem d_M_init_157 : dI prog_8_method_1_code 157 (.iload_n 1) 1 158 := by decide +kernel
theorem d_M_init_158 : dI prog_8_method_1_code 158 (.bipush 10) 2 160 ∧ (Int8.ofInt 10).toInt32 = 10 := by decide +kernel
theorem d_M_init_160 : dJ prog_8_method_1_code 160 (.if_icmp .ge 29) 29 163 189 := by decide +kernel
theorem d_M_init_163 : dI prog_8_method_1_code 163 (.aload_n 0) 1 164 := by decide +kernel
theorem d_M_init_164 : dI prog_8_method_1_code 164 (.getfield 7) 3 167 := by decide +kernel
theorem d_M_init_167 : dI prog_8_method_1_code 167 (.bipush 52) 2 169 ∧ (Int8.ofInt 52).toInt32 = 52 := by decide +kernel
theorem d_M_init_169 : dI prog_8_method_1_code 169 (.iload_n 1) 1 170 := by decide +kernel
theorem d_M_init_170 : dI prog_8_method_1_code 170 .iadd 1 171 := by decide +kernel
theorem d_M_init_171 : dI prog_8_method_1_code 171 (.iconst (-1)) 1 172 ∧ Int32.ofInt (-1) = (-1) := by decide +kernel
theorem d_M_init_172 : dI prog_8_method_1_code 172 .iastore 1 173 := by decide +kernel
theorem d_M_init_173 : dI prog_8_method_1_code 173 (.aload_n 0) 1 174 := by decide +kernel
theorem d_M_init_174 : dI prog_8_method_1_code 174 (.getfield 7) 3 177 := by decide +kernel
theorem d_M_init_177 : dI prog_8_method_1_code 177 (.bipush 62) 2 179 ∧ (Int8.ofInt 62).toInt32 = 62 := by decide +kernel
theorem d_M_init_179 : dI prog_8_method_1_code 179 (.iload_n 1) 1 180 := by decide +kernel
theorem d_M_init_180 : dI prog_8_method_1_code 180 .iadd 1 181 := by decide +kernel
theorem d_M_init_181 : dI prog_8_method_1_code 181 (.iconst (-1)) 1 182 ∧ Int32.ofInt (-1) = (-1) := by decide +kernel
theorem d_M_init_182 : dI prog_8_method_1_code 182 .iastore 1 183 := by decide +kernel
theorem d_M_init_183 : dI prog_8_method_1_code 183 (.iinc 1 1) 3 186 ∧ Int32.ofInt 1 = 1 := by decide +kernel
theorem d_M_init_186 : dJ prog_8_method_1_code 186 (.goto (-29)) (-29) 189 157 := by decide +kernel
theorem d_M_init_189 : decode prog_8_method_1_code 189 = .ok (.return_, 1) := by decide +kernel
theorem d_M_finding_0 : dI prog_8_method_2_code 0 (.aload_n 0) 1 1 := by decide +kernel
theorem d_M_finding_1 : dI prog_8_method_2_code 1 (.getfield 19) 3 4 := by decide +kernel
theorem d_M_finding_4 : dI prog_8_method_2_code 4 (.iload_n 1) 1 5 := by decide +kernel
theorem d_M_finding_5 : dI prog_8_method_2_code 5 .dup2 1 6 := by decide +kernel
theorem d_M_finding_6 : dI prog_8_method_2_code 6 .iaload 1 7 := by decide +kernel
theorem d_M_finding_7 : dI prog_8_method_2_code 7 (.iconst 1) 1 8 ∧ Int32.ofInt 1 = 1 := by decide +kernel
theorem d_M_finding_8 : dI prog_8_method_2_code 8 .iadd 1 9 := by decide +kernel
theorem d_M_finding_9 : dI prog_8_method_2_code 9 .iastore 1 10 := by decide +kernel
theorem d_M_finding_10 : dI prog_8_method_2_code 10 (.ldc 40) 2 12 := by decide +kernel
theorem d_M_finding_12 : dI prog_8_method_2_code 12 (.iload_n 1) 1 13 := by decide +kernel
theorem d_M_finding_13 : dI prog_8_method_2_code 13 .isub 1 14 := by decide +kernel
theorem d_M_finding_14 : decode prog_8_method_2_code 14 = .ok (.ireturn, 1) := by decide +kernel
theorem d_M_in_0 : dI prog_8_method_3_code 0 (.iload_n 0) 1 1 := by decide +kernel
theorem d_M_in_1 : dI prog_8_method_3_code 1 (.iload_n 1) 1 2 := by decide +kernel
theorem d_M_in_2 : dJ prog_8_method_3_code 2 (.if_icmp .lt 12) 12 5 14 := by decide +kernel
theorem d_M_in_5 : dI prog_8_method_3_code 5 (.iload_n 0) 1 6 := by decide +kernel
theorem d_M_in_6 : dI prog_8_method_3_code 6 (.iload_n 2) 1 7 := by decide +kernel
theorem d_M_in_7 : dJ prog_8_method_3_code 7 (.if_icmp .gt 7) 7 10 14 := by decide +kernel
theorem d_M_in_10 : dI prog_8_method_3_code 10 (.iconst 1) 1 11 ∧ Int32.ofInt 1 = 1 := by decide +kernel
theorem d_M_in_11 : dJ prog_8_method_3_code 11 (.goto 4) 4 14 15 := by decide +kernel
theorem d_M_in_14 : dI prog_8_method_3_code 14 (.iconst 0) 1 15 ∧ Int32.ofInt 0 = 0 := by decide +kernel
theorem d_M_in_15 : decode prog_8_method_3_code 15 = .ok (.ireturn, 1) := by decide +kernel
theorem d_M_lay_0 : dI prog_8_method_4_code 0 (.iconst 0) 1 1 ∧ Int32.ofInt 0 = 0 := by decide +kernel
theorem d_M_lay_1 : dI prog_8_method_4_code 1 (.istore_n 2) 1 2 := by decide +kernel
theorem d_M_lay_2 : dI prog_8_method_4_code 2 (.iload_n 2) 1 3 := by decide +kernel
theorem d_M_lay_3 : dI prog_8_method_4_code 3 (.bipush 92) 2 5 ∧ (Int8.ofInt 92).toInt32 = 92 := by decide +kernel
theorem d_M_lay_5 : dJ prog_8_method_4_code 5 (.if_icmp .ge 15) 15 8 20 := by decide +kernel
theorem d_M_lay_8 : dI prog_8_method_4_code 8 (.aload_n 1) 1 9 := by decide +kernel
theorem d_M_lay_9 : dI prog_8_method_4_code 9 (.iload_n 2) 1 10 := by decide +kernel
theorem d_M_lay_10 : dI prog_8_method_4_code 10 (.aload_n 0) 1 11 := by decide +kernel
theorem d_M_lay_11 : dI prog_8_method_4_code 11 (.iload_n 2) 1 12 := by decide +kernel
theorem d_M_lay_12 : dI prog_8_method_4_code 12 .iaload 1 13 := by decide +kernel
theorem d_M_lay_13 : dI prog_8_method_4_code 13 .iastore 1 14 := by decide +kernel
theorem d_M_lay_14 : dI prog_8_method_4_code 14 (.iinc 2 1) 3 17 ∧ Int32.ofInt 1 = 1 := by decide +kernel
theorem d_M_lay_17 : dJ prog_8_method_4_code 17 (.goto (-15)) (-15) 20 2 := by decide +kernel
theorem d_M_lay_20 : decode prog_8_method_4_code 20 = .ok (.return_, 1) := by decide +kernel
theorem d_M_begin_0 : dI prog_8_method_5_code 0 (.aload_n 0) 1 1 := by decide +kernel
theorem d_M_begin_1 : dI prog_8_method_5_code 1 (.getfield 7) 3 4 := by decide +kernel
theorem d_M_begin_4 : dI prog_8_method_5_code 4 (.aload_n 0) 1 5 := by decide +kernel
theorem d_M_begin_5 : dI prog_8_method_5_code 5 (.getfield 16) 3 8 := by decide +kernel
theorem d_M_begin_8 : dI prog_8_method_5_code 8 (.invokestatic 41) 3 11 := by decide +kernel
theorem d_M_begin_11 : decode prog_8_method_5_code 11 = .ok (.return_, 1) := by decide +kernel
theorem d_M_layBack_0 : dI prog_8_method_6_code 0 (.aload_n 0) 1 1 := by decide +kernel
theorem d_M_layBack_1 : dI prog_8_method_6_code 1 (.getfield 16) 3 4 := by decide +kernel
theorem d_M_layBack_4 : dI prog_8_method_6_code 4 (.aload_n 0) 1 5 := by decide +kernel
theorem d_M_layBack_5 : dI prog_8_method_6_code 5 (.getfield 7) 3 8 := by decide +kernel
theorem d_M_layBack_8 : dI prog_8_method_6_code 8 (.invokestatic 41) 3 11 := by decide +kernel
theorem d_M_layBack_11 : decode prog_8_method_6_code 11 = .ok (.return_, 1) := by decide +kernel
theorem d_M_isYard_0 : dI prog_8_method_7_code 0 (.iload_n 0) 1 1 := by decide +kernel
theorem d_M_isYard_1 : dI prog_8_method_7_code 1 (.iconst 0) 1 2 ∧ Int32.ofInt 0 = 0 := by decide +kernel
theorem d_M_isYard_2 : dI prog_8_method_7_code 2 (.bipush 39) 2 4 ∧ (Int8.ofInt 39).toInt32 = 39 := by decide +kernel
theorem d_M_isYard_4 : dI prog_8_method_7_code 4 (.invokestatic 45) 3 7 := by decide +kernel
theorem d_M_isYard_7 : decode prog_8_method_7_code 7 = .ok (.ireturn, 1) := by decide +kernel
theorem d_M_isOut_0 : dI prog_8_method_8_code 0 (.aload_n 0) 1 1 := by decide +kernel
theorem d_M_isOut_1 : dI prog_8_method_8_code 1 (.getfield 7) 3 4 := by decide +kernel
theorem d_M_isOut_4 : dI prog_8_method_8_code 4 (.iconst 0) 1 5 ∧ Int32.ofInt 0 = 0 := by decide +kernel
theorem d_M_isOut_5 : dI prog_8_method_8_code 5 .iaload 1 6 := by decide +kernel
theorem d_M_isOut_6 : dI prog_8_method_8_code 6 (.invokestatic 49) 3 9 := by decide +kernel
theorem d_M_isOut_9 : dJ prog_8_method_8_code 9 (.ifCond .ne 7) 7 12 16 := by decide +kernel
theorem d_M_isOut_12 : dI prog_8_method_8_code 12 (.iconst 1) 1 13 ∧ Int32.ofInt 1 = 1 := by decide +kernel
theorem d_M_isOut_13 : dJ prog_8_method_8_code 13 (.goto 4) 4 16 17 := by decide +kernel
theorem d_M_isOut_16 : dI prog_8_method_8_code 16 (.iconst 0) 1 17 ∧ Int32.ofInt 0 = 0 := by decide +kernel
theorem d_M_isOut_17 : decode prog_8_method_8_code 17 = .ok (.ireturn, 1) := by decide +kernel
theorem d_M_hour_0 : dI prog_8_method_9_code 0 (.bipush 14) 2 2 ∧ (Int8.ofInt 14).toInt32 = 14 := by decide +kernel
theorem d_M_hour_2 : dI prog_8_method_9_code 2 (.aload_n 0) 1 3 := by decide +kernel
theorem d_M_hour_3 : dI prog_8_method_9_code 3 (.getfield 7) 3 6 := by decide +kernel
theorem d_M_hour_6 : dI prog_8_method_9_code 6 (.bipush 7) 2 8 ∧ (Int8.ofInt 7).toInt32 = 7 := by decide +kernel
theorem d_M_hour_8 : dI prog_8_method_9_code 8 .iaload 1 9 := by decide +kernel
theorem d_M_hour_9 : dI prog_8_method_9_code 9 (.bipush 60) 2 11 ∧ (Int8.ofInt 60).toInt32 = 60 := by decide +kernel
theorem d_M_hour_11 : dI prog_8_method_9_code 11 .idiv 1 12 := by decide +kernel
theorem d_M_hour_12 : dI prog_8_method_9_code 12 .iadd 1 13 := by decide +kernel
theorem d_M_hour_13 : dI prog_8_method_9_code 13 (.bipush 24) 2 15 ∧ (Int8.ofInt 24).toInt32 = 24 := by decide +kernel
theorem d_M_hour_15 : dI prog_8_method_9_code 15 .irem 1 16 := by decide +kernel
theorem d_M_hour_16 : decode prog_8_method_9_code 16 = .ok (.ireturn, 1) := by decide +kernel
theorem d_M_heat_0 : dI prog_8_method_10_code 0 (.aload_n 0) 1 1 := by decide +kernel
theorem d_M_heat_1 : dI prog_8_method_10_code 1 (.invokevirtual 53) 3 4 := by decide +kernel
theorem d_M_heat_4 : dI prog_8_method_10_code 4 (.istore_n 1) 1 5 := by decide +kernel
theorem d_M_heat_5 : dI prog_8_method_10_code 5 (.iload_n 1) 1 6 := by decide +kernel
theorem d_M_heat_6 : dI prog_8_method_10_code 6 (.bipush 10) 2 8 ∧ (Int8.ofInt 10).toInt32 = 10 := by decide +kernel
theorem d_M_heat_8 : dI prog_8_method_10_code 8 (.bipush 16) 2 10 ∧ (Int8.ofInt 16).toInt32 = 16 := by decide +kernel
theorem d_M_heat_10 : dI prog_8_method_10_code 10 (.invokestatic 45) 3 13 := by decide +kernel
theorem d_M_heat_13 : dJ prog_8_method_10_code 13 (.ifCond .eq 7) 7 16 20 := by decide +kernel
theorem d_M_heat_16 : dI prog_8_method_10_code 16 (.iconst 3) 1 17 ∧ Int32.ofInt 3 = 3 := by decide +kernel
theorem d_M_heat_17 : dJ prog_8_method_10_code 17 (.goto 19) 19 20 36 := by decide +kernel
theorem d_M_heat_20 : dI prog_8_method_10_code 20 (.iload_n 1) 1 21 := by decide +kernel
theorem d_M_heat_21 : dI prog_8_method_10_code 21 (.bipush 20) 2 23 ∧ (Int8.ofInt 20).toInt32 = 20 := by decide +kernel
theorem d_M_heat_23 : dJ prog_8_method_10_code 23 (.if_icmp .ge 8) 8 26 31 := by decide +kernel
theorem d_M_heat_26 : dI prog_8_method_10_code 26 (.iload_n 1) 1 27 := by decide +kernel
theorem d_M_heat_27 : dI prog_8_method_10_code 27 (.iconst 5) 1 28 ∧ Int32.ofInt 5 = 5 := by decide +kernel
theorem d_M_heat_28 : dJ prog_8_method_10_code 28 (.if_icmp .gt 7) 7 31 35 := by decide +kernel
theorem d_M_heat_31 : dI prog_8_method_10_code 31 (.iconst 1) 1 32 ∧ Int32.ofInt 1 = 1 := by decide +kernel
theorem d_M_heat_32 : dJ prog_8_method_10_code 32 (.goto 4) 4 35 36 := by decide +kernel
theorem d_M_heat_35 : dI prog_8_method_10_code 35 (.iconst 2) 1 36 ∧ Int32.ofInt 2 = 2 := by decide +kernel
theorem d_M_heat_36 : decode prog_8_method_10_code 36 = .ok (.ireturn, 1) := by decide +kernel
theorem d_M_gripOf_0 : dI prog_8_method_11_code 0 (.iload_n 1) 1 1 := by decide +kernel
theorem d_M_gripOf_1 : dI prog_8_method_11_code 1 (.iconst 3) 1 2 ∧ Int32.ofInt 3 = 3 := by decide +kernel
theorem d_M_gripOf_2 : dI prog_8_method_11_code 2 (.iload_n 2) 1 3 := by decide +kernel
theorem d_M_gripOf_3 : dI prog_8_method_11_code 3 .imul 1 4 := by decide +kernel
theorem d_M_gripOf_4 : dI prog_8_method_11_code 4 .iadd 1 5 := by decide +kernel
theorem d_M_gripOf_5 : dI prog_8_method_11_code 5 (.aload_n 0) 1 6 := by decide +kernel
theorem d_M_gripOf_6 : dI prog_8_method_11_code 6 (.invokevirtual 53) 3 9 := by decide +kernel
theorem d_M_gripOf_9 : dI prog_8_method_11_code 9 (.iconst 4) 1 10 ∧ Int32.ofInt 4 = 4 := by decide +kernel
theorem d_M_gripOf_10 : dI prog_8_method_11_code 10 (.bipush 7) 2 12 ∧ (Int8.ofInt 7).toInt32 = 7 := by decide +kernel
theorem d_M_gripOf_12 : dI prog_8_method_11_code 12 (.invokestatic 45) 3 15 := by decide +kernel
theorem d_M_gripOf_15 : dJ prog_8_method_11_code 15 (.ifCond .eq 8) 8 18 23 := by decide +kernel
theorem d_M_gripOf_18 : dI prog_8_method_11_code 18 (.bipush 20) 2 20 ∧ (Int8.ofInt 20).toInt32 = 20 := by decide +kernel
theorem d_M_gripOf_20 : dJ prog_8_method_11_code 20 (.goto 4) 4 23 24 := by decide +kernel
theorem d_M_gripOf_23 : dI prog_8_method_11_code 23 (.iconst 0) 1 24 ∧ Int32.ofInt 0 = 0 := by decide +kernel
theorem d_M_gripOf_24 : dI prog_8_method_11_code 24 .iadd 1 25 := by decide +kernel
theorem d_M_gripOf_25 : decode prog_8_method_11_code 25 = .ok (.ireturn, 1) := by decide +kernel
theorem d_M_grip_0 : dI prog_8_method_12_code 0 (.aload_n 0) 1 1 := by decide +kernel
theorem d_M_grip_1 : dI prog_8_method_12_code 1 (.aload_n 0) 1 2 := by decide +kernel
theorem d_M_grip_2 : dI prog_8_method_12_code 2 (.getfield 7) 3 5 := by decide +kernel
theorem d_M_grip_5 : dI prog_8_method_12_code 5 (.bipush 12) 2 7 ∧ (Int8.ofInt 12).toInt32 = 12 := by decide +kernel
theorem d_M_grip_7 : dI prog_8_method_12_code 7 (.iload_n 1) 1 8 := by decide +kernel
theorem d_M_grip_8 : dI prog_8_method_12_code 8 .iadd 1 9 := by decide +kernel
theorem d_M_grip_9 : dI prog_8_method_12_code 9 .iaload 1 10 := by decide +kernel
theorem d_M_grip_10 : dI prog_8_method_12_code 10 (.aload_n 0) 1 11 := by decide +kernel
theorem d_M_grip_11 : dI prog_8_method_12_code 11 (.getfield 7) 3 14 := by decide +kernel
theorem d_M_grip_14 : dI prog_8_method_12_code 14 (.iconst 3) 1 15 ∧ Int32.ofInt 3 = 3 := by decide +kernel
theorem d_M_grip_15 : dI prog_8_method_12_code 15 .iaload 1 16 := by decide +kernel
theorem d_M_grip_16 : dI prog_8_method_12_code 16 (.invokevirtual 57) 3 19 := by decide +kernel
theorem d_M_grip_19 : decode prog_8_method_12_code 19 = .ok (.ireturn, 1) := by decide +kernel
theorem d_M_weight_0 : dI prog_8_method_13_code 0 (.bipush 20) 2 2 ∧ (Int8.ofInt 20).toInt32 = 20 := by decide +kernel
theorem d_M_weight_2 : dI prog_8_method_13_code 2 (.aload_n 0) 1 3 := by decide +kernel
theorem d_M_weight_3 : dI prog_8_method_13_code 3 (.getfield 7) 3 6 := by decide +kernel
theorem d_M_weight_6 : dI prog_8_method_13_code 6 (.iconst 2) 1 7 ∧ Int32.ofInt 2 = 2 := by decide +kernel
theorem d_M_weight_7 : dI prog_8_method_13_code 7 .iaload 1 8 := by decide +kernel
theorem d_M_weight_8 : dI prog_8_method_13_code 8 (.iconst 2) 1 9 ∧ Int32.ofInt 2 = 2 := by decide +kernel
theorem d_M_weight_9 : dI prog_8_method_13_code 9 .idiv 1 10 := by decide +kernel
theorem d_M_weight_10 : dI prog_8_method_13_code 10 .iadd 1 11 := by decide +kernel
theorem d_M_weight_11 : dI prog_8_method_13_code 11 (.aload_n 0) 1 12 := by decide +kernel
theorem d_M_weight_12 : dI prog_8_method_13_code 12 (.getfield 7) 3 15 := by decide +kernel
theorem d_M_weight_15 : dI prog_8_method_13_code 15 (.iconst 1) 1 16 ∧ Int32.ofInt 1 = 1 := by decide +kernel
theorem d_M_weight_16 : dI prog_8_method_13_code 16 .iaload 1 17 := by decide +kernel
theorem d_M_weight_17 : dI prog_8_method_13_code 17 .iadd 1 18 := by decide +kernel
theorem d_M_weight_18 : decode prog_8_method_13_code 18 = .ok (.ireturn, 1) := by decide +kernel
theorem d_M_sand_0 : dI prog_8_method_14_code 0 (.iload_n 1) 1 1 := by decide +kernel
theorem d_M_sand_1 : dI prog_8_method_14_code 1 (.invokestatic 49) 3 4 := by decide +kernel
theorem d_M_sand_4 : dJ prog_8_method_14_code 4 (.ifCond .eq 13) 13 7 17 := by decide +kernel
theorem d_M_sand_7 : dI prog_8_method_14_code 7 (.iload_n 2) 1 8 := by decide +kernel
theorem d_M_sand_8 : dI prog_8_method_14_code 8 (.iconst 0) 1 9 ∧ Int32.ofInt 0 = 0 := by decide +kernel
theorem d_M_sand_9 : dI prog_8_method_14_code 9 (.bipush 99) 2 11 ∧ (Int8.ofInt 99).toInt32 = 99 := by decide +kernel
theorem d_M_sand_11 : dI prog_8_method_14_code 11 (.invokestatic 45) 3 14 := by decide +kernel
theorem d_M_sand_14 : dJ prog_8_method_14_code 14 (.ifCond .ne 9) 9 17 23 := by decide +kernel
theorem d_M_sand_17 : dI prog_8_method_14_code 17 (.aload_n 0) 1 18 := by decide +kernel
theorem d_M_sand_18 : dI prog_8_method_14_code 18 (.iconst 0) 1 19 ∧ Int32.ofInt 0 = 0 := by decide +kernel
theorem d_M_sand_19 : dI prog_8_method_14_code 19 (.invokevirtual 61) 3 22 := by decide +kernel
theorem d_M_sand_22 : decode prog_8_method_14_code 22 = .ok (.ireturn, 1) := by decide +kernel
theorem d_M_sand_23 : dI prog_8_method_14_code 23 (.aload_n 0) 1 24 := by decide +kernel
theorem d_M_sand_24 : dI prog_8_method_14_code 24 (.getfield 7) 3 27 := by decide +kernel
theorem d_M_sand_27 : dI prog_8_method_14_code 27 (.bipush 12) 2 29 ∧ (Int8.ofInt 12).toInt32 = 12 := by decide +kernel
theorem d_M_sand_29 : dI prog_8_method_14_code 29 (.iload_n 1) 1 30 := by decide +kernel
theorem d_M_sand_30 : dI prog_8_method_14_code 30 .iadd 1 31 := by decide +kernel
theorem d_M_sand_31 : dI prog_8_method_14_code 31 .iaload 1 32 := by decide +kernel
theorem d_M_sand_32 : dI prog_8_method_14_code 32 (.istore_n 3) 1 33 := by decide +kernel
theorem d_M_sand_33 : dI prog_8_method_14_code 33 (.aload_n 0) 1 34 := by decide +kernel
theorem d_M_sand_34 : dI prog_8_method_14_code 34 (.getfield 7) 3 37 := by decide +kernel
theorem d_M_sand_37 : dI prog_8_method_14_code 37 (.bipush 12) 2 39 ∧ (Int8.ofInt 12).toInt32 = 12 := by decide +kernel
theorem d_M_sand_39 : dI prog_8_method_14_code 39 (.iload_n 1) 1 40 := by decide +kernel
theorem d_M_sand_40 : dI prog_8_method_14_code 40 .iadd 1 41 := by decide +kernel
theorem d_M_sand_41 : dI prog_8_method_14_code 41 (.iload_n 2) 1 42 := by decide +kernel
theorem d_M_sand_42 : dI prog_8_method_14_code 42 .iastore 1 43 := by decide +kernel
theorem d_M_sand_43 : dI prog_8_method_14_code 43 (.iload_n 3) 1 44 := by decide +kernel
theorem d_M_sand_44 : decode prog_8_method_14_code 44 = .ok (.ireturn, 1) := by decide +kernel
theorem d_M_yardOf_0 : dI prog_8_method_15_code 0 (.iload_n 1) 1 1 := by decide +kernel
theorem d_M_yardOf_1 : dI prog_8_method_15_code 1 (.invokestatic 49) 3 4 := by decide +kernel
theorem d_M_yardOf_4 : dJ prog_8_method_15_code 4 (.ifCond .eq 12) 12 7 16 := by decide +kernel
theorem d_M_yardOf_7 : dI prog_8_method_15_code 7 (.iload_n 2) 1 8 := by decide +kernel
theorem d_M_yardOf_8 : dI prog_8_method_15_code 8 (.iconst 0) 1 9 ∧ Int32.ofInt 0 = 0 := by decide +kernel
theorem d_M_yardOf_9 : dI prog_8_method_15_code 9 (.iconst 1) 1 10 ∧ Int32.ofInt 1 = 1 := by decide +kernel
theorem d_M_yardOf_10 : dI prog_8_method_15_code 10 (.invokestatic 45) 3 13 := by decide +kernel
theorem d_M_yardOf_13 : dJ prog_8_method_15_code 13 (.ifCond .ne 9) 9 16 22 := by decide +kernel
theorem d_M_yardOf_16 : dI prog_8_method_15_code 16 (.aload_n 0) 1 17 := by decide +kernel
theorem d_M_yardOf_17 : dI prog_8_method_15_code 17 (.iconst 0) 1 18 ∧ Int32.ofInt 0 = 0 := by decide +kernel
theorem d_M_yardOf_18 : dI prog_8_method_15_code 18 (.invokevirtual 61) 3 21 := by decide +kernel
theorem d_M_yardOf_21 : decode prog_8_method_15_code 21 = .ok (.ireturn, 1) := by decide +kernel
theorem d_M_yardOf_22 : dI prog_8_method_15_code 22 (.iload_n 2) 1 23 := by decide +kernel
theorem d_M_yardOf_23 : dJ prog_8_method_15_code 23 (.ifCond .ne 15) 15 26 38 := by decide +kernel
theorem d_M_yardOf_26 : dI prog_8_method_15_code 26 (.aload_n 0) 1 27 := by decide +kernel
theorem d_M_yardOf_27 : dI prog_8_method_15_code 27 (.getfield 7) 3 30 := by decide +kernel
theorem d_M_yardOf_30 : dI prog_8_method_15_code 30 (.bipush 12) 2 32 ∧ (Int8.ofInt 12).toInt32 = 12 := by decide +kernel
theorem d_M_yardOf_32 : dI prog_8_method_15_code 32 (.iload_n 1) 1 33 := by decide +kernel
theorem d_M_yardOf_33 : dI prog_8_method_15_code 33 .iadd 1 34 := by decide +kernel
theorem d_M_yardOf_34 : dI prog_8_method_15_code 34 .iaload 1 35 := by decide +kernel
theorem d_M_yardOf_35 : dJ prog_8_method_15_code 35 (.goto 8) 8 38 43 := by decide +kernel
theorem d_M_yardOf_38 : dI prog_8_method_15_code 38 (.aload_n 0) 1 39 := by decide +kernel
theorem d_M_yardOf_39 : dI prog_8_method_15_code 39 (.iload_n 1) 1 40 := by decide +kernel
theorem d_M_yardOf_40 : dI prog_8_method_15_code 40 (.invokevirtual 65) 3 43 := by decide +kernel
theorem d_M_yardOf_43 : decode prog_8_method_15_code 43 = .ok (.ireturn, 1) := by decide +kernel
theorem d_M_mostOf_0 : dI prog_8_method_16_code 0 (.iload_n 0) 1 1 := by decide +kernel
theorem d_M_mostOf_1 : dJ prog_8_method_16_code 1 (.ifCond .ne 8) 8 4 9 := by decide +kernel
theorem d_M_mostOf_4 : dI prog_8_method_16_code 4 (.bipush 39) 2 6 ∧ (Int8.ofInt 39).toInt32 = 39 := by decide +kernel
theorem d_M_mostOf_6 : dJ prog_8_method_16_code 6 (.goto 42) 42 9 48 := by decide +kernel
theorem d_M_mostOf_9 : dI prog_8_method_16_code 9 (.iload_n 0) 1 10 := by decide +kernel
theorem d_M_mostOf_10 : dI prog_8_method_16_code 10 (.iconst 3) 1 11 ∧ Int32.ofInt 3 = 3 := by decide +kernel
theorem d_M_mostOf_11 : dJ prog_8_method_16_code 11 (.if_icmp .ne 8) 8 14 19 := by decide +kernel
theorem d_M_mostOf_14 : dI prog_8_method_16_code 14 (.bipush 9) 2 16 ∧ (Int8.ofInt 9).toInt32 = 9 := by decide +kernel
theorem d_M_mostOf_16 : dJ prog_8_method_16_code 16 (.goto 32) 32 19 48 := by decide +kernel
theorem d_M_mostOf_19 : dI prog_8_method_16_code 19 (.iload_n 0) 1 20 := by decide +kernel
theorem d_M_mostOf_20 : dI prog_8_method_16_code 20 (.iconst 4) 1 21 ∧ Int32.ofInt 4 = 4 := by decide +kernel
theorem d_M_mostOf_21 : dJ prog_8_method_16_code 21 (.if_icmp .eq 8) 8 24 29 := by decide +kernel
theorem d_M_mostOf_24 : dI prog_8_method_16_code 24 (.iload_n 0) 1 25 := by decide +kernel
theorem d_M_mostOf_25 : dI prog_8_method_16_code 25 (.iconst 5) 1 26 ∧ Int32.ofInt 5 = 5 := by decide +kernel
theorem d_M_mostOf_26 : dJ prog_8_method_16_code 26 (.if_icmp .ne 8) 8 29 34 := by decide +kernel
theorem d_M_mostOf_29 : dI prog_8_method_16_code 29 (.bipush 8) 2 31 ∧ (Int8.ofInt 8).toInt32 = 8 := by decide +kernel
theorem d_M_mostOf_31 : dJ prog_8_method_16_code 31 (.goto 17) 17 34 48 := by decide +kernel
theorem d_M_mostOf_34 : dI prog_8_method_16_code 34 (.iload_n 0) 1 35 := by decide +kernel
theorem d_M_mostOf_35 : dI prog_8_method_16_code 35 (.bipush 6) 2 37 ∧ (Int8.ofInt 6).toInt32 = 6 := by decide +kernel
theorem d_M_mostOf_37 : dJ prog_8_method_16_code 37 (.if_icmp .ne 9) 9 40 46 := by decide +kernel
theorem d_M_mostOf_40 : dI prog_8_method_16_code 40 (.sipush 9999) 3 43 ∧ (Int16.ofInt 9999).toInt32 = 9999 := by decide +kernel
theorem d_M_mostOf_43 : dJ prog_8_method_16_code 43 (.goto 5) 5 46 48 := by decide +kernel
theorem d_M_mostOf_46 : dI prog_8_method_16_code 46 (.bipush 99) 2 48 ∧ (Int8.ofInt 99).toInt32 = 99 := by decide +kernel
theorem d_M_mostOf_48 : decode prog_8_method_16_code 48 = .ok (.ireturn, 1) := by decide +kernel
theorem d_M_isSet_0 : dI prog_8_method_17_code 0 (.iload_n 1) 1 1 := by decide +kernel
theorem d_M_isSet_1 : dI prog_8_method_17_code 1 (.iload_n 0) 1 2 := by decide +kernel
theorem d_M_isSet_2 : dI prog_8_method_17_code 2 (.iconst 5) 1 3 ∧ Int32.ofInt 5 = 5 := by decide +kernel
theorem d_M_isSet_3 : dJ prog_8_method_17_code 3 (.if_icmp .ne 7) 7 6 10 := by decide +kernel
theorem d_M_isSet_6 : dI prog_8_method_17_code 6 (.iconst 1) 1 7 ∧ Int32.ofInt 1 = 1 := by decide +kernel
theorem d_M_isSet_7 : dJ prog_8_method_17_code 7 (.goto 4) 4 10 11 := by decide +kernel
theorem d_M_isSet_10 : dI prog_8_method_17_code 10 (.iconst 0) 1 11 ∧ Int32.ofInt 0 = 0 := by decide +kernel
theorem d_M_isSet_11 : dI prog_8_method_17_code 11 (.iload_n 0) 1 12 := by decide +kernel
theorem d_M_isSet_12 : dI prog_8_method_17_code 12 (.invokestatic 68) 3 15 := by decide +kernel
theorem d_M_isSet_15 : dI prog_8_method_17_code 15 (.invokestatic 45) 3 18 := by decide +kernel
theorem d_M_isSet_18 : decode prog_8_method_17_code 18 = .ok (.ireturn, 1) := by decide +kernel
theorem d_M_set_0 : dI prog_8_method_18_code 0 (.iload_n 1) 1 1 := by decide +kernel
theorem d_M_set_1 : dI prog_8_method_18_code 1 (.iconst 0) 1 2 ∧ Int32.ofInt 0 = 0 := by decide +kernel
theorem d_M_set_2 : dI prog_8_method_18_code 2 (.bipush 6) 2 4 ∧ (Int8.ofInt 6).toInt32 = 6 := by decide +kernel
theorem d_M_set_4 : dI prog_8_method_18_code 4 (.invokestatic 45) 3 7 := by decide +kernel
theorem d_M_set_7 : dJ prog_8_method_18_code 7 (.ifCond .eq 11) 11 10 18 := by decide +kernel
theorem d_M_set_10 : dI prog_8_method_18_code 10 (.iload_n 1) 1 11 := by decide +kernel
theorem d_M_set_11 : dI prog_8_method_18_code 11 (.iload_n 2) 1 12 := by decide +kernel
theorem d_M_set_12 : dI prog_8_method_18_code 12 (.invokestatic 71) 3 15 := by decide +kernel
theorem d_M_set_15 : dJ prog_8_method_18_code 15 (.ifCond .ne 9) 9 18 24 := by decide +kernel
theorem d_M_set_18 : dI prog_8_method_18_code 18 (.aload_n 0) 1 19 := by decide +kernel
theorem d_M_set_19 : dI prog_8_method_18_code 19 (.iconst 0) 1 20 ∧ Int32.ofInt 0 = 0 := by decide +kernel
theorem d_M_set_20 : dI prog_8_method_18_code 20 (.invokevirtual 61) 3 23 := by decide +kernel
theorem d_M_set_23 : decode prog_8_method_18_code 23 = .ok (.ireturn, 1) := by decide +kernel
theorem d_M_set_24 : dI prog_8_method_18_code 24 (.aload_n 0) 1 25 := by decide +kernel
theorem d_M_set_25 : dI prog_8_method_18_code 25 (.getfield 7) 3 28 := by decide +kernel
theorem d_M_set_28 : dI prog_8_method_18_code 28 (.iload_n 1) 1 29 := by decide +kernel
theorem d_M_set_29 : dI prog_8_method_18_code 29 .iaload 1 30 := by decide +kernel
theorem d_M_set_30 : dI prog_8_method_18_code 30 (.istore_n 3) 1 31 := by decide +kernel
theorem d_M_set_31 : dI prog_8_method_18_code 31 (.aload_n 0) 1 32 := by decide +kernel
theorem d_M_set_32 : dI prog_8_method_18_code 32 (.getfield 7) 3 35 := by decide +kernel
theorem d_M_set_35 : dI prog_8_method_18_code 35 (.iload_n 1) 1 36 := by decide +kernel
theorem d_M_set_36 : dI prog_8_method_18_code 36 (.iload_n 2) 1 37 := by decide +kernel
theorem d_M_set_37 : dI prog_8_method_18_code 37 .iastore 1 38 := by decide +kernel
theorem d_M_set_38 : dI prog_8_method_18_code 38 (.iload_n 3) 1 39 := by decide +kernel
theorem d_M_set_39 : decode prog_8_method_18_code 39 = .ok (.ireturn, 1) := by decide +kernel
theorem d_M_now_0 : dI prog_8_method_19_code 0 (.iload_n 1) 1 1 := by decide +kernel
theorem d_M_now_1 : decode prog_8_method_19_code 1 = .ok (.tableswitch 83 8 13 #[39, 44, 49, 54, 67, 75], 39) := by decide +kernel
theorem d_M_now_40 : dI prog_8_method_19_code 40 (.aload_n 0) 1 41 := by decide +kernel
theorem d_M_now_41 : dI prog_8_method_19_code 41 (.invokevirtual 53) 3 44 := by decide +kernel
theorem d_M_now_44 : decode prog_8_method_19_code 44 = .ok (.ireturn, 1) := by decide +kernel
theorem d_M_now_45 : dI prog_8_method_19_code 45 (.aload_n 0) 1 46 := by decide +kernel
theorem d_M_now_46 : dI prog_8_method_19_code 46 (.invokevirtual 75) 3 49 := by decide +kernel
theorem d_M_now_49 : decode prog_8_method_19_code 49 = .ok (.ireturn, 1) := by decide +kernel
theorem d_M_now_50 : dI prog_8_method_19_code 50 (.aload_n 0) 1 51 := by decide +kernel
theorem d_M_now_51 : dI prog_8_method_19_code 51 (.invokevirtual 78) 3 54 := by decide +kernel
theorem d_M_now_54 : decode prog_8_method_19_code 54 = .ok (.ireturn, 1) := by decide +kernel
theorem d_M_now_55 : dI prog_8_method_19_code 55 (.aload_n 0) 1 56 := by decide +kernel
theorem d_M_now_56 : dI prog_8_method_19_code 56 (.invokevirtual 81) 3 59 := by decide +kernel
theorem d_M_now_59 : dJ prog_8_method_19_code 59 (.ifCond .eq 7) 7 62 66 := by decide +kernel
theorem d_M_now_62 : dI prog_8_method_19_code 62 (.iconst 1) 1 63 ∧ Int32.ofInt 1 = 1 := by decide +kernel
theorem d_M_now_63 : dJ prog_8_method_19_code 63 (.goto 4) 4 66 67 := by decide +kernel
theorem d_M_now_66 : dI prog_8_method_19_code 66 (.iconst 0) 1 67 ∧ Int32.ofInt 0 = 0 := by decide +kernel
theorem d_M_now_67 : decode prog_8_method_19_code 67 = .ok (.ireturn, 1) := by decide +kernel
theorem d_M_now_68 : dI prog_8_method_19_code 68 (.aload_n 0) 1 69 := by decide +kernel
theorem d_M_now_69 : dI prog_8_method_19_code 69 (.getfield 7) 3 72 := by decide +kernel
theorem d_M_now_72 : dI prog_8_method_19_code 72 (.bipush 8) 2 74 ∧ (Int8.ofInt 8).toInt32 = 8 := by decide +kernel
theorem d_M_now_74 : dI prog_8_method_19_code 74 .iaload 1 75 := by decide +kernel
theorem d_M_now_75 : decode prog_8_method_19_code 75 = .ok (.ireturn, 1) := by decide +kernel
theorem d_M_now_76 : dI prog_8_method_19_code 76 (.aload_n 0) 1 77 := by decide +kernel
theorem d_M_now_77 : dI prog_8_method_19_code 77 (.getfield 7) 3 80 := by decide +kernel
theorem d_M_now_80 : dI prog_8_method_19_code 80 (.bipush 9) 2 82 ∧ (Int8.ofInt 9).toInt32 = 9 := by decide +kernel
theorem d_M_now_82 : dI prog_8_method_19_code 82 .iaload 1 83 := by decide +kernel
theorem d_M_now_83 : decode prog_8_method_19_code 83 = .ok (.ireturn, 1) := by decide +kernel
theorem d_M_now_84 : dI prog_8_method_19_code 84 (.iload_n 1) 1 85 := by decide +kernel
theorem d_M_now_85 : dI prog_8_method_19_code 85 (.iconst 0) 1 86 ∧ Int32.ofInt 0 = 0 := by decide +kernel
theorem d_M_now_86 : dI prog_8_method_19_code 86 (.bipush 7) 2 88 ∧ (Int8.ofInt 7).toInt32 = 7 := by decide +kernel
theorem d_M_now_88 : dI prog_8_method_19_code 88 (.invokestatic 45) 3 91 := by decide +kernel
theorem d_M_now_91 : dJ prog_8_method_19_code 91 (.ifCond .eq 12) 12 94 103 := by decide +kernel
theorem d_M_now_94 : dI prog_8_method_19_code 94 (.aload_n 0) 1 95 := by decide +kernel
theorem d_M_now_95 : dI prog_8_method_19_code 95 (.getfield 7) 3 98 := by decide +kernel
theorem d_M_now_98 : dI prog_8_method_19_code 98 (.iload_n 1) 1 99 := by decide +kernel
theorem d_M_now_99 : dI prog_8_method_19_code 99 .iaload 1 100 := by decide +kernel
theorem d_M_now_100 : dJ prog_8_method_19_code 100 (.goto 8) 8 103 108 := by decide +kernel
theorem d_M_now_103 : dI prog_8_method_19_code 103 (.aload_n 0) 1 104 := by decide +kernel
theorem d_M_now_104 : dI prog_8_method_19_code 104 (.iconst 0) 1 105 ∧ Int32.ofInt 0 = 0 := by decide +kernel
theorem d_M_now_105 : dI prog_8_method_19_code 105 (.invokevirtual 61) 3 108 := by decide +kernel
theorem d_M_now_108 : decode prog_8_method_19_code 108 = .ok (.ireturn, 1) := by decide +kernel
theorem d_M_soft_0 : dI prog_8_method_20_code 0 (.iload_n 1) 1 1 := by decide +kernel
theorem d_M_soft_1 : dI prog_8_method_20_code 1 (.iconst 0) 1 2 ∧ Int32.ofInt 0 = 0 := by decide +kernel
theorem d_M_soft_2 : dI prog_8_method_20_code 2 (.bipush 100) 2 4 ∧ (Int8.ofInt 100).toInt32 = 100 := by decide +kernel
theorem d_M_soft_4 : dI prog_8_method_20_code 4 (.invokestatic 45) 3 7 := by decide +kernel
theorem d_M_soft_7 : dJ prog_8_method_20_code 7 (.ifCond .eq 12) 12 10 19 := by decide +kernel
theorem d_M_soft_10 : dI prog_8_method_20_code 10 (.iload_n 2) 1 11 := by decide +kernel
theorem d_M_soft_11 : dI prog_8_method_20_code 11 (.iconst 0) 1 12 ∧ Int32.ofInt 0 = 0 := by decide +kernel
theorem d_M_soft_12 : dI prog_8_method_20_code 12 (.iconst 1) 1 13 ∧ Int32.ofInt 1 = 1 := by decide +kernel
theorem d_M_soft_13 : dI prog_8_method_20_code 13 (.invokestatic 45) 3 16 := by decide +kernel
theorem d_M_soft_16 : dJ prog_8_method_20_code 16 (.ifCond .ne 9) 9 19 25 := by decide +kernel
theorem d_M_soft_19 : dI prog_8_method_20_code 19 (.aload_n 0) 1 20 := by decide +kernel
theorem d_M_soft_20 : dI prog_8_method_20_code 20 (.iconst 0) 1 21 ∧ Int32.ofInt 0 = 0 := by decide +kernel
theorem d_M_soft_21 : dI prog_8_method_20_code 21 (.invokevirtual 61) 3 24 := by decide +kernel
theorem d_M_soft_24 : decode prog_8_method_20_code 24 = .ok (.ireturn, 1) := by decide +kernel
theorem d_M_soft_25 : dI prog_8_method_20_code 25 (.iconst 0) 1 26 ∧ Int32.ofInt 0 = 0 := by decide +kernel
theorem d_M_soft_26 : dI prog_8_method_20_code 26 (.istore_n 3) 1 27 := by decide +kernel
theorem d_M_soft_27 : dI prog_8_method_20_code 27 (.iconst (-1)) 1 28 ∧ Int32.ofInt (-1) = (-1) := by decide +kernel
theorem d_M_soft_28 : dI prog_8_method_20_code 28 (.istore 4) 2 30 := by decide +kernel
theorem d_M_soft_30 : dI prog_8_method_20_code 30 (.iconst 0) 1 31 ∧ Int32.ofInt 0 = 0 := by decide +kernel
theorem d_M_soft_31 : dI prog_8_method_20_code 31 (.istore 5) 2 33 := by decide +kernel
theorem d_M_soft_33 : dI prog_8_method_20_code 33 (.iconst 0) 1 34 ∧ Int32.ofInt 0 = 0 := by decide +kernel
theorem d_M_soft_34 : dI prog_8_method_20_code 34 (.istore 6) 2 36 := by decide +kernel
theorem d_M_soft_36 : dI prog_8_method_20_code 36 (.iload 6) 2 38 := by decide +kernel
theorem d_M_soft_38 : dI prog_8_method_20_code 38 (.bipush 40) 2 40 ∧ (Int8.ofInt 40).toInt32 = 40 := by decide +kernel
theorem d_M_soft_40 : dJ prog_8_method_20_code 40 (.if_icmp .ge 66) 66 43 106 := by decide +kernel
theorem d_M_soft_43 : dI prog_8_method_20_code 43 (.aload_n 0) 1 44 := by decide +kernel
theorem d_M_soft_44 : dI prog_8_method_20_code 44 (.getfield 7) 3 47 := by decide +kernel
theorem d_M_soft_47 : dI prog_8_method_20_code 47 (.bipush 12) 2 49 ∧ (Int8.ofInt 12).toInt32 = 12 := by decide +kernel
theorem d_M_soft_49 : dI prog_8_method_20_code 49 (.iload 6) 2 51 := by decide +kernel
theorem d_M_soft_51 : dI prog_8_method_20_code 51 .iadd 1 52 := by decide +kernel
theorem d_M_soft_52 : dI prog_8_method_20_code 52 .iaload 1 53 := by decide +kernel
theorem d_M_soft_53 : dI prog_8_method_20_code 53 (.iload_n 1) 1 54 := by decide +kernel
theorem d_M_soft_54 : dJ prog_8_method_20_code 54 (.if_icmp .ge 10) 10 57 64 := by decide +kernel
theorem d_M_soft_57 : dI prog_8_method_20_code 57 (.iload 5) 2 59 := by decide +kernel
theorem d_M_soft_59 : dI prog_8_method_20_code 59 (.iconst 1) 1 60 ∧ Int32.ofInt 1 = 1 := by decide +kernel
theorem d_M_soft_60 : dI prog_8_method_20_code 60 .iadd 1 61 := by decide +kernel
theorem d_M_soft_61 : dJ prog_8_method_20_code 61 (.goto 4) 4 64 65 := by decide +kernel
theorem d_M_soft_64 : dI prog_8_method_20_code 64 (.iconst 0) 1 65 ∧ Int32.ofInt 0 = 0 := by decide +kernel
theorem d_M_soft_65 : dI prog_8_method_20_code 65 (.istore 5) 2 67 := by decide +kernel
theorem d_M_soft_67 : dI prog_8_method_20_code 67 (.iload 5) 2 69 := by decide +kernel
theorem d_M_soft_69 : dI prog_8_method_20_code 69 (.iload_n 3) 1 70 := by decide +kernel
theorem d_M_soft_70 : dJ prog_8_method_20_code 70 (.if_icmp .le 13) 13 73 83 := by decide +kernel
theorem d_M_soft_73 : dI prog_8_method_20_code 73 (.iload 6) 2 75 := by decide +kernel
theorem d_M_soft_75 : dI prog_8_method_20_code 75 (.iload 5) 2 77 := by decide +kernel
theorem d_M_soft_77 : dI prog_8_method_20_code 77 .isub 1 78 := by decide +kernel
theorem d_M_soft_78 : dI prog_8_method_20_code 78 (.iconst 1) 1 79 ∧ Int32.ofInt 1 = 1 := by decide +kernel
theorem d_M_soft_79 : dI prog_8_method_20_code 79 .iadd 1 80 := by decide +kernel
theorem d_M_soft_80 : dJ prog_8_method_20_code 80 (.goto 5) 5 83 85 := by decide +kernel
theorem d_M_soft_83 : dI prog_8_method_20_code 83 (.iload 4) 2 85 := by decide +kernel
theorem d_M_soft_85 : dI prog_8_method_20_code 85 (.istore 4) 2 87 := by decide +kernel
theorem d_M_soft_87 : dI prog_8_method_20_code 87 (.iload 5) 2 89 := by decide +kernel
theorem d_M_soft_89 : dI prog_8_method_20_code 89 (.iload_n 3) 1 90 := by decide +kernel
theorem d_M_soft_90 : dJ prog_8_method_20_code 90 (.if_icmp .le 8) 8 93 98 := by decide +kernel
theorem d_M_soft_93 : dI prog_8_method_20_code 93 (.iload 5) 2 95 := by decide +kernel
theorem d_M_soft_95 : dJ prog_8_method_20_code 95 (.goto 4) 4 98 99 := by decide +kernel
theorem d_M_soft_98 : dI prog_8_method_20_code 98 (.iload_n 3) 1 99 := by decide +kernel
theorem d_M_soft_99 : dI prog_8_method_20_code 99 (.istore_n 3) 1 100 := by decide +kernel
theorem d_M_soft_100 : dI prog_8_method_20_code 100 (.iinc 6 1) 3 103 ∧ Int32.ofInt 1 = 1 := by decide +kernel
theorem d_M_soft_103 : dJ prog_8_method_20_code 103 (.goto (-67)) (-67) 106 36 := by decide +kernel
theorem d_M_soft_106 : dI prog_8_method_20_code 106 (.iload_n 2) 1 107 := by decide +kernel
theorem d_M_soft_107 : dJ prog_8_method_20_code 107 (.ifCond .ne 7) 7 110 114 := by decide +kernel
theorem d_M_soft_110 : dI prog_8_method_20_code 110 (.iload_n 3) 1 111 := by decide +kernel
theorem d_M_soft_111 : dJ prog_8_method_20_code 111 (.goto 5) 5 114 116 := by decide +kernel
theorem d_M_soft_114 : dI prog_8_method_20_code 114 (.iload 4) 2 116 := by decide +kernel
theorem d_M_soft_116 : decode prog_8_method_20_code 116 = .ok (.ireturn, 1) := by decide +kernel
theorem d_M_draw_0 : dI prog_8_method_21_code 0 (.aload_n 0) 1 1 := by decide +kernel
theorem d_M_draw_1 : dI prog_8_method_21_code 1 (.getfield 7) 3 4 := by decide +kernel
theorem d_M_draw_4 : dI prog_8_method_21_code 4 (.bipush 10) 2 6 ∧ (Int8.ofInt 10).toInt32 = 10 := by decide +kernel
theorem d_M_draw_6 : dI prog_8_method_21_code 6 (.aload_n 0) 1 7 := by decide +kernel
theorem d_M_draw_7 : dI prog_8_method_21_code 7 (.getfield 7) 3 10 := by decide +kernel
theorem d_M_draw_10 : dI prog_8_method_21_code 10 (.bipush 10) 2 12 ∧ (Int8.ofInt 10).toInt32 = 10 := by decide +kernel
theorem d_M_draw_12 : dI prog_8_method_21_code 12 .iaload 1 13 := by decide +kernel
theorem d_M_draw_13 : dI prog_8_method_21_code 13 (.ldc 85) 2 15 := by decide +kernel
theorem d_M_draw_15 : dI prog_8_method_21_code 15 .imul 1 16 := by decide +kernel
theorem d_M_draw_16 : dI prog_8_method_21_code 16 (.sipush 12345) 3 19 ∧ (Int16.ofInt 12345).toInt32 = 12345 := by decide +kernel
theorem d_M_draw_19 : dI prog_8_method_21_code 19 .iadd 1 20 := by decide +kernel
theorem d_M_draw_20 : dI prog_8_method_21_code 20 .iastore 1 21 := by decide +kernel
theorem d_M_draw_21 : dI prog_8_method_21_code 21 (.aload_n 0) 1 22 := by decide +kernel
theorem d_M_draw_22 : dI prog_8_method_21_code 22 (.getfield 7) 3 25 := by decide +kernel
theorem d_M_draw_25 : dI prog_8_method_21_code 25 (.bipush 10) 2 27 ∧ (Int8.ofInt 10).toInt32 = 10 := by decide +kernel
theorem d_M_draw_27 : dI prog_8_method_21_code 27 .iaload 1 28 := by decide +kernel
theorem d_M_draw_28 : dI prog_8_method_21_code 28 (.bipush 8) 2 30 ∧ (Int8.ofInt 8).toInt32 = 8 := by decide +kernel
theorem d_M_draw_30 : dI prog_8_method_21_code 30 .iushr 1 31 := by decide +kernel
theorem d_M_draw_31 : decode prog_8_method_21_code 31 = .ok (.ireturn, 1) := by decide +kernel
theorem d_M_allFirm_0 : dI prog_8_method_22_code 0 (.iconst 0) 1 1 ∧ Int32.ofInt 0 = 0 := by decide +kernel
theorem d_M_allFirm_1 : dI prog_8_method_22_code 1 (.istore_n 1) 1 2 := by decide +kernel
theorem d_M_allFirm_2 : dI prog_8_method_22_code 2 (.iconst 0) 1 3 ∧ Int32.ofInt 0 = 0 := by decide +kernel
theorem d_M_allFirm_3 : dI prog_8_method_22_code 3 (.istore_n 2) 1 4 := by decide +kernel
theorem d_M_allFirm_4 : dI prog_8_method_22_code 4 (.iload_n 2) 1 5 := by decide +kernel
theorem d_M_allFirm_5 : dI prog_8_method_22_code 5 (.bipush 40) 2 7 ∧ (Int8.ofInt 40).toInt32 = 40 := by decide +kernel
theorem d_M_allFirm_7 : dJ prog_8_method_22_code 7 (.if_icmp .ge 21) 21 10 28 := by decide +kernel
theorem d_M_allFirm_10 : dI prog_8_method_22_code 10 (.iload_n 1) 1 11 := by decide +kernel
theorem d_M_allFirm_11 : dI prog_8_method_22_code 11 (.aload_n 0) 1 12 := by decide +kernel
theorem d_M_allFirm_12 : dI prog_8_method_22_code 12 (.getfield 7) 3 15 := by decide +kernel
theorem d_M_allFirm_15 : dI prog_8_method_22_code 15 (.bipush 12) 2 17 ∧ (Int8.ofInt 12).toInt32 = 12 := by decide +kernel
theorem d_M_allFirm_17 : dI prog_8_method_22_code 17 (.iload_n 2) 1 18 := by decide +kernel
theorem d_M_allFirm_18 : dI prog_8_method_22_code 18 .iadd 1 19 := by decide +kernel
theorem d_M_allFirm_19 : dI prog_8_method_22_code 19 .iaload 1 20 := by decide +kernel
theorem d_M_allFirm_20 : dI prog_8_method_22_code 20 .iadd 1 21 := by decide +kernel
theorem d_M_allFirm_21 : dI prog_8_method_22_code 21 (.istore_n 1) 1 22 := by decide +kernel
theorem d_M_allFirm_22 : dI prog_8_method_22_code 22 (.iinc 2 1) 3 25 ∧ Int32.ofInt 1 = 1 := by decide +kernel
theorem d_M_allFirm_25 : dJ prog_8_method_22_code 25 (.goto (-21)) (-21) 28 4 := by decide +kernel
theorem d_M_allFirm_28 : dI prog_8_method_22_code 28 (.iload_n 1) 1 29 := by decide +kernel
theorem d_M_allFirm_29 : decode prog_8_method_22_code 29 = .ok (.ireturn, 1) := by decide +kernel
theorem d_M_wind_0 : dI prog_8_method_23_code 0 (.iload_n 1) 1 1 := by decide +kernel
theorem d_M_wind_1 : dI prog_8_method_23_code 1 (.iconst 1) 1 2 ∧ Int32.ofInt 1 = 1 := by decide +kernel
theorem d_M_wind_2 : dI prog_8_method_23_code 2 (.bipush 60) 2 4 ∧ (Int8.ofInt 60).toInt32 = 60 := by decide +kernel
theorem d_M_wind_4 : dI prog_8_method_23_code 4 (.invokestatic 45) 3 7 := by decide +kernel
theorem d_M_wind_7 : dJ prog_8_method_23_code 7 (.ifCond .ne 9) 9 10 16 := by decide +kernel
theorem d_M_wind_10 : dI prog_8_method_23_code 10 (.aload_n 0) 1 11 := by decide +kernel
theorem d_M_wind_11 : dI prog_8_method_23_code 11 (.iconst 0) 1 12 ∧ Int32.ofInt 0 = 0 := by decide +kernel
theorem d_M_wind_12 : dI prog_8_method_23_code 12 (.invokevirtual 61) 3 15 := by decide +kernel
theorem d_M_wind_15 : decode prog_8_method_23_code 15 = .ok (.ireturn, 1) := by decide +kernel
theorem d_M_wind_16 : dI prog_8_method_23_code 16 (.iconst 0) 1 17 ∧ Int32.ofInt 0 = 0 := by decide +kernel
theorem d_M_wind_17 : dI prog_8_method_23_code 17 (.istore_n 2) 1 18 := by decide +kernel
theorem d_M_wind_18 : dI prog_8_method_23_code 18 (.iload_n 2) 1 19 := by decide +kernel
theorem d_M_wind_19 : dI prog_8_method_23_code 19 (.iload_n 1) 1 20 := by decide +kernel
theorem d_M_wind_20 : dJ prog_8_method_23_code 20 (.if_icmp .ge 33) 33 23 53 := by decide +kernel
theorem d_M_wind_23 : dI prog_8_method_23_code 23 (.aload_n 0) 1 24 := by decide +kernel
theorem d_M_wind_24 : dI prog_8_method_23_code 24 (.invokevirtual 86) 3 27 := by decide +kernel
theorem d_M_wind_27 : dI prog_8_method_23_code 27 (.bipush 40) 2 29 ∧ (Int8.ofInt 40).toInt32 = 40 := by decide +kernel
theorem d_M_wind_29 : dI prog_8_method_23_code 29 .irem 1 30 := by decide +kernel
theorem d_M_wind_30 : dI prog_8_method_23_code 30 (.istore_n 3) 1 31 := by decide +kernel
theorem d_M_wind_31 : dI prog_8_method_23_code 31 (.aload_n 0) 1 32 := by decide +kernel
theorem d_M_wind_32 : dI prog_8_method_23_code 32 (.getfield 7) 3 35 := by decide +kernel
theorem d_M_wind_35 : dI prog_8_method_23_code 35 (.bipush 12) 2 37 ∧ (Int8.ofInt 12).toInt32 = 12 := by decide +kernel
theorem d_M_wind_37 : dI prog_8_method_23_code 37 (.iload_n 3) 1 38 := by decide +kernel
theorem d_M_wind_38 : dI prog_8_method_23_code 38 .iadd 1 39 := by decide +kernel
theorem d_M_wind_39 : dI prog_8_method_23_code 39 (.aload_n 0) 1 40 := by decide +kernel
theorem d_M_wind_40 : dI prog_8_method_23_code 40 (.invokevirtual 86) 3 43 := by decide +kernel
theorem d_M_wind_43 : dI prog_8_method_23_code 43 (.bipush 100) 2 45 ∧ (Int8.ofInt 100).toInt32 = 100 := by decide +kernel
theorem d_M_wind_45 : dI prog_8_method_23_code 45 .irem 1 46 := by decide +kernel
theorem d_M_wind_46 : dI prog_8_method_23_code 46 .iastore 1 47 := by decide +kernel
theorem d_M_wind_47 : dI prog_8_method_23_code 47 (.iinc 2 1) 3 50 ∧ Int32.ofInt 1 = 1 := by decide +kernel
theorem d_M_wind_50 : dJ prog_8_method_23_code 50 (.goto (-32)) (-32) 53 18 := by decide +kernel
theorem d_M_wind_53 : dI prog_8_method_23_code 53 (.aload_n 0) 1 54 := by decide +kernel
theorem d_M_wind_54 : dI prog_8_method_23_code 54 (.invokevirtual 89) 3 57 := by decide +kernel
theorem d_M_wind_57 : decode prog_8_method_23_code 57 = .ok (.ireturn, 1) := by decide +kernel
theorem d_M_minutesOf_0 : dI prog_8_method_24_code 0 (.iload_n 1) 1 1 := by decide +kernel
theorem d_M_minutesOf_1 : decode prog_8_method_24_code 1 = .ok (.tableswitch 94 1 7 #[43, 46, 52, 55, 49, 94, 58], 43) := by decide +kernel
theorem d_M_minutesOf_44 : dI prog_8_method_24_code 44 (.bipush 30) 2 46 ∧ (Int8.ofInt 30).toInt32 = 30 := by decide +kernel
theorem d_M_minutesOf_46 : decode prog_8_method_24_code 46 = .ok (.ireturn, 1) := by decide +kernel
theorem d_M_minutesOf_47 : dI prog_8_method_24_code 47 (.bipush 45) 2 49 ∧ (Int8.ofInt 45).toInt32 = 45 := by decide +kernel
theorem d_M_minutesOf_49 : decode prog_8_method_24_code 49 = .ok (.ireturn, 1) := by decide +kernel
theorem d_M_minutesOf_50 : dI prog_8_method_24_code 50 (.bipush 105) 2 52 ∧ (Int8.ofInt 105).toInt32 = 105 := by decide +kernel
theorem d_M_minutesOf_52 : decode prog_8_method_24_code 52 = .ok (.ireturn, 1) := by decide +kernel
theorem d_M_minutesOf_53 : dI prog_8_method_24_code 53 (.bipush 40) 2 55 ∧ (Int8.ofInt 40).toInt32 = 40 := by decide +kernel
theorem d_M_minutesOf_55 : decode prog_8_method_24_code 55 = .ok (.ireturn, 1) := by decide +kernel
theorem d_M_minutesOf_56 : dI prog_8_method_24_code 56 (.bipush 10) 2 58 ∧ (Int8.ofInt 10).toInt32 = 10 := by decide +kernel
theorem d_M_minutesOf_58 : decode prog_8_method_24_code 58 = .ok (.ireturn, 1) := by decide +kernel
theorem d_M_minutesOf_59 : dI prog_8_method_24_code 59 (.sipush 1680) 3 62 ∧ (Int16.ofInt 1680).toInt32 = 1680 := by decide +kernel
theorem d_M_minutesOf_62 : dI prog_8_method_24_code 62 (.sipush 840) 3 65 ∧ (Int16.ofInt 840).toInt32 = 840 := by decide +kernel
theorem d_M_minutesOf_65 : dI prog_8_method_24_code 65 (.aload_n 0) 1 66 := by decide +kernel
theorem d_M_minutesOf_66 : dI prog_8_method_24_code 66 (.getfield 7) 3 69 := by decide +kernel
theorem d_M_minutesOf_69 : dI prog_8_method_24_code 69 (.bipush 7) 2 71 ∧ (Int8.ofInt 7).toInt32 = 7 := by decide +kernel
theorem d_M_minutesOf_71 : dI prog_8_method_24_code 71 .iaload 1 72 := by decide +kernel
theorem d_M_minutesOf_72 : dI prog_8_method_24_code 72 .iadd 1 73 := by decide +kernel
theorem d_M_minutesOf_73 : dI prog_8_method_24_code 73 (.sipush 1440) 3 76 ∧ (Int16.ofInt 1440).toInt32 = 1440 := by decide +kernel
theorem d_M_minutesOf_76 : dI prog_8_method_24_code 76 .irem 1 77 := by decide +kernel
theorem d_M_minutesOf_77 : dI prog_8_method_24_code 77 .isub 1 78 := by decide +kernel
theorem d_M_minutesOf_78 : dI prog_8_method_24_code 78 (.sipush 1440) 3 81 ∧ (Int16.ofInt 1440).toInt32 = 1440 := by decide +kernel
theorem d_M_minutesOf_81 : dI prog_8_method_24_code 81 .irem 1 82 := by decide +kernel
theorem d_M_minutesOf_82 : dI prog_8_method_24_code 82 (.istore_n 2) 1 83 := by decide +kernel
theorem d_M_minutesOf_83 : dI prog_8_method_24_code 83 (.iload_n 2) 1 84 := by decide +kernel
theorem d_M_minutesOf_84 : dJ prog_8_method_24_code 84 (.ifCond .ne 9) 9 87 93 := by decide +kernel
theorem d_M_minutesOf_87 : dI prog_8_method_24_code 87 (.sipush 1440) 3 90 ∧ (Int16.ofInt 1440).toInt32 = 1440 := by decide +kernel
theorem d_M_minutesOf_90 : dJ prog_8_method_24_code 90 (.goto 4) 4 93 94 := by decide +kernel
theorem d_M_minutesOf_93 : dI prog_8_method_24_code 93 (.iload_n 2) 1 94 := by decide +kernel
theorem d_M_minutesOf_94 : decode prog_8_method_24_code 94 = .ok (.ireturn, 1) := by decide +kernel
theorem d_M_minutesOf_95 : dI prog_8_method_24_code 95 (.iconst 1) 1 96 ∧ Int32.ofInt 1 = 1 := by decide +kernel
theorem d_M_minutesOf_96 : decode prog_8_method_24_code 96 = .ok (.ireturn, 1) := by decide +kernel
theorem d_M_workOf_0 : dI prog_8_method_25_code 0 (.iload_n 0) 1 1 := by decide +kernel
theorem d_M_workOf_1 : dI prog_8_method_25_code 1 (.iconst 1) 1 2 ∧ Int32.ofInt 1 = 1 := by decide +kernel
theorem d_M_workOf_2 : dJ prog_8_method_25_code 2 (.if_icmp .eq 8) 8 5 10 := by decide +kernel
theorem d_M_workOf_5 : dI prog_8_method_25_code 5 (.iload_n 0) 1 6 := by decide +kernel
theorem d_M_workOf_6 : dI prog_8_method_25_code 6 (.iconst 2) 1 7 ∧ Int32.ofInt 2 = 2 := by decide +kernel
theorem d_M_workOf_7 : dJ prog_8_method_25_code 7 (.if_icmp .ne 7) 7 10 14 := by decide +kernel
theorem d_M_workOf_10 : dI prog_8_method_25_code 10 (.iconst 3) 1 11 ∧ Int32.ofInt 3 = 3 := by decide +kernel
theorem d_M_workOf_11 : dJ prog_8_method_25_code 11 (.goto 22) 22 14 33 := by decide +kernel
theorem d_M_workOf_14 : dI prog_8_method_25_code 14 (.iload_n 0) 1 15 := by decide +kernel
theorem d_M_workOf_15 : dI prog_8_method_25_code 15 (.iconst 5) 1 16 ∧ Int32.ofInt 5 = 5 := by decide +kernel
theorem d_M_workOf_16 : dJ prog_8_method_25_code 16 (.if_icmp .ne 7) 7 19 23 := by decide +kernel
theorem d_M_workOf_19 : dI prog_8_method_25_code 19 (.iconst 4) 1 20 ∧ Int32.ofInt 4 = 4 := by decide +kernel
theorem d_M_workOf_20 : dJ prog_8_method_25_code 20 (.goto 13) 13 23 33 := by decide +kernel
theorem d_M_workOf_23 : dI prog_8_method_25_code 23 (.iload_n 0) 1 24 := by decide +kernel
theorem d_M_workOf_24 : dI prog_8_method_25_code 24 (.iconst 3) 1 25 ∧ Int32.ofInt 3 = 3 := by decide +kernel
theorem d_M_workOf_25 : dJ prog_8_method_25_code 25 (.if_icmp .ne 7) 7 28 32 := by decide +kernel
theorem d_M_workOf_28 : dI prog_8_method_25_code 28 (.iconst 2) 1 29 ∧ Int32.ofInt 2 = 2 := by decide +kernel
theorem d_M_workOf_29 : dJ prog_8_method_25_code 29 (.goto 4) 4 32 33 := by decide +kernel
theorem d_M_workOf_32 : dI prog_8_method_25_code 32 (.iconst 0) 1 33 ∧ Int32.ofInt 0 = 0 := by decide +kernel
theorem d_M_workOf_33 : decode prog_8_method_25_code 33 = .ok (.ireturn, 1) := by decide +kernel
theorem d_M_drinks_0 : dI prog_8_method_26_code 0 (.aload_n 0) 1 1 := by decide +kernel
theorem d_M_drinks_1 : dI prog_8_method_26_code 1 (.getfield 7) 3 4 := by decide +kernel
theorem d_M_drinks_4 : dI prog_8_method_26_code 4 (.iconst 5) 1 5 ∧ Int32.ofInt 5 = 5 := by decide +kernel
theorem d_M_drinks_5 : dI prog_8_method_26_code 5 .iaload 1 6 := by decide +kernel
theorem d_M_drinks_6 : dI prog_8_method_26_code 6 (.iload_n 1) 1 7 := by decide +kernel
theorem d_M_drinks_7 : dI prog_8_method_26_code 7 (.invokestatic 92) 3 10 := by decide +kernel
theorem d_M_drinks_10 : dI prog_8_method_26_code 10 (.iconst 1) 1 11 ∧ Int32.ofInt 1 = 1 := by decide +kernel
theorem d_M_drinks_11 : dI prog_8_method_26_code 11 .iadd 1 12 := by decide +kernel
theorem d_M_drinks_12 : dI prog_8_method_26_code 12 .imul 1 13 := by decide +kernel
theorem d_M_drinks_13 : dI prog_8_method_26_code 13 (.aload_n 0) 1 14 := by decide +kernel
theorem d_M_drinks_14 : dI prog_8_method_26_code 14 (.invokevirtual 75) 3 17 := by decide +kernel
theorem d_M_drinks_17 : dI prog_8_method_26_code 17 .imul 1 18 := by decide +kernel
theorem d_M_drinks_18 : dI prog_8_method_26_code 18 (.aload_n 0) 1 19 := by decide +kernel
theorem d_M_drinks_19 : dI prog_8_method_26_code 19 (.iload_n 1) 1 20 := by decide +kernel
theorem d_M_drinks_20 : dI prog_8_method_26_code 20 (.invokevirtual 95) 3 23 := by decide +kernel
theorem d_M_drinks_23 : dI prog_8_method_26_code 23 .imul 1 24 := by decide +kernel
theorem d_M_drinks_24 : dI prog_8_method_26_code 24 (.bipush 60) 2 26 ∧ (Int8.ofInt 60).toInt32 = 60 := by decide +kernel
theorem d_M_drinks_26 : dI prog_8_method_26_code 26 .idiv 1 27 := by decide +kernel
theorem d_M_drinks_27 : decode prog_8_method_26_code 27 = .ok (.ireturn, 1) := by decide +kernel
theorem d_M_canDo_0 : dI prog_8_method_27_code 0 (.aload_n 0) 1 1 := by decide +kernel
theorem d_M_canDo_1 : dI prog_8_method_27_code 1 (.invokevirtual 81) 3 4 := by decide +kernel
theorem d_M_canDo_4 : dJ prog_8_method_27_code 4 (.ifCond .ne 22) 22 7 26 := by decide +kernel
theorem d_M_canDo_7 : dI prog_8_method_27_code 7 (.aload_n 0) 1 8 := by decide +kernel
theorem d_M_canDo_8 : dI prog_8_method_27_code 8 (.iload_n 1) 1 9 := by decide +kernel
theorem d_M_canDo_9 : dI prog_8_method_27_code 9 (.invokevirtual 98) 3 12 := by decide +kernel
theorem d_M_canDo_12 : dI prog_8_method_27_code 12 (.aload_n 0) 1 13 := by decide +kernel
theorem d_M_canDo_13 : dI prog_8_method_27_code 13 (.getfield 7) 3 16 := by decide +kernel
theorem d_M_canDo_16 : dI prog_8_method_27_code 16 (.bipush 6) 2 18 ∧ (Int8.ofInt 6).toInt32 = 6 := by decide +kernel
theorem d_M_canDo_18 : dI prog_8_method_27_code 18 .iaload 1 19 := by decide +kernel
theorem d_M_canDo_19 : dJ prog_8_method_27_code 19 (.if_icmp .gt 7) 7 22 26 := by decide +kernel
theorem d_M_canDo_22 : dI prog_8_method_27_code 22 (.iconst 1) 1 23 ∧ Int32.ofInt 1 = 1 := by decide +kernel
theorem d_M_canDo_23 : dJ prog_8_method_27_code 23 (.goto 4) 4 26 27 := by decide +kernel
theorem d_M_canDo_26 : dI prog_8_method_27_code 26 (.iconst 0) 1 27 ∧ Int32.ofInt 0 = 0 := by decide +kernel
theorem d_M_canDo_27 : decode prog_8_method_27_code 27 = .ok (.ireturn, 1) := by decide +kernel
theorem d_M_pushes_0 : dI prog_8_method_28_code 0 (.iconst 1) 1 1 ∧ Int32.ofInt 1 = 1 := by decide +kernel
theorem d_M_pushes_1 : dI prog_8_method_28_code 1 (.istore 6) 2 3 := by decide +kernel
theorem d_M_pushes_3 : dI prog_8_method_28_code 3 (.iconst 0) 1 4 ∧ Int32.ofInt 0 = 0 := by decide +kernel
theorem d_M_pushes_4 : dI prog_8_method_28_code 4 (.istore 7) 2 6 := by decide +kernel
theorem d_M_pushes_6 : dI prog_8_method_28_code 6 (.iload 7) 2 8 := by decide +kernel
theorem d_M_pushes_8 : dI prog_8_method_28_code 8 (.iload_n 1) 1 9 := by decide +kernel
theorem d_M_pushes_9 : dJ prog_8_method_28_code 9 (.if_icmp .ge 149) 149 12 158 := by decide +kernel
theorem d_M_pushes_12 : dI prog_8_method_28_code 12 (.iload 6) 2 14 := by decide +kernel
theorem d_M_pushes_14 : dJ prog_8_method_28_code 14 (.ifCond .eq 144) 144 17 158 := by decide +kernel
theorem d_M_pushes_17 : dI prog_8_method_28_code 17 (.aload_n 0) 1 18 := by decide +kernel
theorem d_M_pushes_18 : dI prog_8_method_28_code 18 (.invokevirtual 81) 3 21 := by decide +kernel
theorem d_M_pushes_21 : dJ prog_8_method_28_code 21 (.ifCond .ne 137) 137 24 158 := by decide +kernel
theorem d_M_pushes_24 : dI prog_8_method_28_code 24 (.aload_n 0) 1 25 := by decide +kernel
theorem d_M_pushes_25 : dI prog_8_method_28_code 25 (.getfield 7) 3 28 := by decide +kernel
theorem d_M_pushes_28 : dI prog_8_method_28_code 28 (.iconst 0) 1 29 ∧ Int32.ofInt 0 = 0 := by decide +kernel
theorem d_M_pushes_29 : dI prog_8_method_28_code 29 .iaload 1 30 := by decide +kernel
theorem d_M_pushes_30 : dI prog_8_method_28_code 30 (.istore 8) 2 32 := by decide +kernel
theorem d_M_pushes_32 : dI prog_8_method_28_code 32 (.aload_n 0) 1 33 := by decide +kernel
theorem d_M_pushes_33 : dI prog_8_method_28_code 33 (.iload 8) 2 35 := by decide +kernel
theorem d_M_pushes_35 : dI prog_8_method_28_code 35 (.invokevirtual 65) 3 38 := by decide +kernel
theorem d_M_pushes_38 : dI prog_8_method_28_code 38 (.iload 8) 2 40 := by decide +kernel
theorem d_M_pushes_40 : dI prog_8_method_28_code 40 (.iload_n 3) 1 41 := by decide +kernel
theorem d_M_pushes_41 : dJ prog_8_method_28_code 41 (.if_icmp .lt 17) 17 44 58 := by decide +kernel
theorem d_M_pushes_44 : dI prog_8_method_28_code 44 (.iload 8) 2 46 := by decide +kernel
theorem d_M_pushes_46 : dI prog_8_method_28_code 46 (.iload_n 3) 1 47 := by decide +kernel
theorem d_M_pushes_47 : dI prog_8_method_28_code 47 (.iload 4) 2 49 := by decide +kernel
theorem d_M_pushes_49 : dI prog_8_method_28_code 49 .iadd 1 50 := by decide +kernel
theorem d_M_pushes_50 : dJ prog_8_method_28_code 50 (.if_icmp .ge 8) 8 53 58 := by decide +kernel
theorem d_M_pushes_53 : dI prog_8_method_28_code 53 (.bipush 30) 2 55 ∧ (Int8.ofInt 30).toInt32 = 30 := by decide +kernel
theorem d_M_pushes_55 : dJ prog_8_method_28_code 55 (.goto 4) 4 58 59 := by decide +kernel
theorem d_M_pushes_58 : dI prog_8_method_28_code 58 (.iconst 0) 1 59 ∧ Int32.ofInt 0 = 0 := by decide +kernel
theorem d_M_pushes_59 : dI prog_8_method_28_code 59 .iadd 1 60 := by decide +kernel
theorem d_M_pushes_60 : dI prog_8_method_28_code 60 (.istore 9) 2 62 := by decide +kernel
theorem d_M_pushes_62 : dI prog_8_method_28_code 62 (.aload_n 0) 1 63 := by decide +kernel
theorem d_M_pushes_63 : dI prog_8_method_28_code 63 (.getfield 7) 3 66 := by decide +kernel
theorem d_M_pushes_66 : dI prog_8_method_28_code 66 (.bipush 9) 2 68 ∧ (Int8.ofInt 9).toInt32 = 9 := by decide +kernel
theorem d_M_pushes_68 : dI prog_8_method_28_code 68 .dup2 1 69 := by decide +kernel
theorem d_M_pushes_69 : dI prog_8_method_28_code 69 .iaload 1 70 := by decide +kernel
theorem d_M_pushes_70 : dI prog_8_method_28_code 70 (.iconst 1) 1 71 ∧ Int32.ofInt 1 = 1 := by decide +kernel
theorem d_M_pushes_71 : dI prog_8_method_28_code 71 .iadd 1 72 := by decide +kernel
theorem d_M_pushes_72 : dI prog_8_method_28_code 72 .iastore 1 73 := by decide +kernel
theorem d_M_pushes_73 : dI prog_8_method_28_code 73 (.iload 9) 2 75 := by decide +kernel
theorem d_M_pushes_75 : dI prog_8_method_28_code 75 (.aload_n 0) 1 76 := by decide +kernel
theorem d_M_pushes_76 : dI prog_8_method_28_code 76 (.invokevirtual 78) 3 79 := by decide +kernel
theorem d_M_pushes_79 : dI prog_8_method_28_code 79 (.iload 5) 2 81 := by decide +kernel
theorem d_M_pushes_81 : dI prog_8_method_28_code 81 .isub 1 82 := by decide +kernel
theorem d_M_pushes_82 : dJ prog_8_method_28_code 82 (.if_icmp .lt 7) 7 85 89 := by decide +kernel
theorem d_M_pushes_85 : dI prog_8_method_28_code 85 (.iconst 1) 1 86 ∧ Int32.ofInt 1 = 1 := by decide +kernel
theorem d_M_pushes_86 : dJ prog_8_method_28_code 86 (.goto 4) 4 89 90 := by decide +kernel
theorem d_M_pushes_89 : dI prog_8_method_28_code 89 (.iconst 0) 1 90 ∧ Int32.ofInt 0 = 0 := by decide +kernel
theorem d_M_pushes_90 : dI prog_8_method_28_code 90 (.istore 6) 2 92 := by decide +kernel
theorem d_M_pushes_92 : dI prog_8_method_28_code 92 (.aload_n 0) 1 93 := by decide +kernel
theorem d_M_pushes_93 : dI prog_8_method_28_code 93 (.getfield 7) 3 96 := by decide +kernel
theorem d_M_pushes_96 : dI prog_8_method_28_code 96 (.iconst 0) 1 97 ∧ Int32.ofInt 0 = 0 := by decide +kernel
theorem d_M_pushes_97 : dI prog_8_method_28_code 97 .dup2 1 98 := by decide +kernel
theorem d_M_pushes_98 : dI prog_8_method_28_code 98 .iaload 1 99 := by decide +kernel
theorem d_M_pushes_99 : dI prog_8_method_28_code 99 (.iload 6) 2 101 := by decide +kernel
theorem d_M_pushes_101 : dJ prog_8_method_28_code 101 (.ifCond .eq 7) 7 104 108 := by decide +kernel
theorem d_M_pushes_104 : dI prog_8_method_28_code 104 (.iload_n 2) 1 105 := by decide +kernel
theorem d_M_pushes_105 : dJ prog_8_method_28_code 105 (.goto 4) 4 108 109 := by decide +kernel
theorem d_M_pushes_108 : dI prog_8_method_28_code 108 (.iconst 0) 1 109 ∧ Int32.ofInt 0 = 0 := by decide +kernel
theorem d_M_pushes_109 : dI prog_8_method_28_code 109 .iadd 1 110 := by decide +kernel
theorem d_M_pushes_110 : dI prog_8_method_28_code 110 .iastore 1 111 := by decide +kernel
theorem d_M_pushes_111 : dI prog_8_method_28_code 111 (.aload_n 0) 1 112 := by decide +kernel
theorem d_M_pushes_112 : dI prog_8_method_28_code 112 (.getfield 7) 3 115 := by decide +kernel
theorem d_M_pushes_115 : dI prog_8_method_28_code 115 (.iconst 1) 1 116 ∧ Int32.ofInt 1 = 1 := by decide +kernel
theorem d_M_pushes_116 : dI prog_8_method_28_code 116 (.iload 6) 2 118 := by decide +kernel
theorem d_M_pushes_118 : dJ prog_8_method_28_code 118 (.ifCond .eq 7) 7 121 125 := by decide +kernel
theorem d_M_pushes_121 : dI prog_8_method_28_code 121 (.iconst 0) 1 122 ∧ Int32.ofInt 0 = 0 := by decide +kernel
theorem d_M_pushes_122 : dJ prog_8_method_28_code 122 (.goto 29) 29 125 151 := by decide +kernel
theorem d_M_pushes_125 : dI prog_8_method_28_code 125 (.aload_n 0) 1 126 := by decide +kernel
theorem d_M_pushes_126 : dI prog_8_method_28_code 126 (.getfield 7) 3 129 := by decide +kernel
theorem d_M_pushes_129 : dI prog_8_method_28_code 129 (.iconst 1) 1 130 ∧ Int32.ofInt 1 = 1 := by decide +kernel
theorem d_M_pushes_130 : dI prog_8_method_28_code 130 .iaload 1 131 := by decide +kernel
theorem d_M_pushes_131 : dI prog_8_method_28_code 131 (.iconst 4) 1 132 ∧ Int32.ofInt 4 = 4 := by decide +kernel
theorem d_M_pushes_132 : dI prog_8_method_28_code 132 .iadd 1 133 := by decide +kernel
theorem d_M_pushes_133 : dI prog_8_method_28_code 133 (.bipush 99) 2 135 ∧ (Int8.ofInt 99).toInt32 = 99 := by decide +kernel
theorem d_M_pushes_135 : dJ prog_8_method_28_code 135 (.if_icmp .le 8) 8 138 143 := by decide +kernel
theorem d_M_pushes_138 : dI prog_8_method_28_code 138 (.bipush 99) 2 140 ∧ (Int8.ofInt 99).toInt32 = 99 := by decide +kernel
theorem d_M_pushes_140 : dJ prog_8_method_28_code 140 (.goto 11) 11 143 151 := by decide +kernel
theorem d_M_pushes_143 : dI prog_8_method_28_code 143 (.aload_n 0) 1 144 := by decide +kernel
theorem d_M_pushes_144 : dI prog_8_method_28_code 144 (.getfield 7) 3 147 := by decide +kernel
theorem d_M_pushes_147 : dI prog_8_method_28_code 147 (.iconst 1) 1 148 ∧ Int32.ofInt 1 = 1 := by decide +kernel
theorem d_M_pushes_148 : dI prog_8_method_28_code 148 .iaload 1 149 := by decide +kernel
theorem d_M_pushes_149 : dI prog_8_method_28_code 149 (.iconst 4) 1 150 ∧ Int32.ofInt 4 = 4 := by decide +kernel
theorem d_M_pushes_150 : dI prog_8_method_28_code 150 .iadd 1 151 := by decide +kernel
theorem d_M_pushes_151 : dI prog_8_method_28_code 151 .iastore 1 152 := by decide +kernel
theorem d_M_pushes_152 : dI prog_8_method_28_code 152 (.iinc 7 1) 3 155 ∧ Int32.ofInt 1 = 1 := by decide +kernel
theorem d_M_pushes_155 : dJ prog_8_method_28_code 155 (.goto (-149)) (-149) 158 6 := by decide +kernel
theorem d_M_pushes_158 : decode prog_8_method_28_code 158 = .ok (.return_, 1) := by decide +kernel
theorem d_M_digs_0 : dI prog_8_method_29_code 0 (.aload_n 0) 1 1 := by decide +kernel
theorem d_M_digs_1 : dI prog_8_method_29_code 1 (.getfield 7) 3 4 := by decide +kernel
theorem d_M_digs_4 : dI prog_8_method_29_code 4 (.iconst 1) 1 5 ∧ Int32.ofInt 1 = 1 := by decide +kernel
theorem d_M_digs_5 : dI prog_8_method_29_code 5 .iaload 1 6 := by decide +kernel
theorem d_M_digs_6 : dI prog_8_method_29_code 6 (.bipush 10) 2 8 ∧ (Int8.ofInt 10).toInt32 = 10 := by decide +kernel
theorem d_M_digs_8 : dI prog_8_method_29_code 8 (.aload_n 0) 1 9 := by decide +kernel
theorem d_M_digs_9 : dI prog_8_method_29_code 9 (.getfield 7) 3 12 := by decide +kernel
theorem d_M_digs_12 : dI prog_8_method_29_code 12 (.iconst 5) 1 13 ∧ Int32.ofInt 5 = 5 := by decide +kernel
theorem d_M_digs_13 : dI prog_8_method_29_code 13 .iaload 1 14 := by decide +kernel
theorem d_M_digs_14 : dI prog_8_method_29_code 14 .imul 1 15 := by decide +kernel
theorem d_M_digs_15 : dI prog_8_method_29_code 15 .isub 1 16 := by decide +kernel
theorem d_M_digs_16 : dI prog_8_method_29_code 16 (.istore_n 1) 1 17 := by decide +kernel
theorem d_M_digs_17 : dI prog_8_method_29_code 17 (.aload_n 0) 1 18 := by decide +kernel
theorem d_M_digs_18 : dI prog_8_method_29_code 18 (.getfield 7) 3 21 := by decide +kernel
theorem d_M_digs_21 : dI prog_8_method_29_code 21 (.iconst 1) 1 22 ∧ Int32.ofInt 1 = 1 := by decide +kernel
theorem d_M_digs_22 : dI prog_8_method_29_code 22 (.iload_n 1) 1 23 := by decide +kernel
theorem d_M_digs_23 : dJ prog_8_method_29_code 23 (.ifCond .ge 7) 7 26 30 := by decide +kernel
theorem d_M_digs_26 : dI prog_8_method_29_code 26 (.iconst 0) 1 27 ∧ Int32.ofInt 0 = 0 := by decide +kernel
theorem d_M_digs_27 : dJ prog_8_method_29_code 27 (.goto 4) 4 30 31 := by decide +kernel
theorem d_M_digs_30 : dI prog_8_method_29_code 30 (.iload_n 1) 1 31 := by decide +kernel
theorem d_M_digs_31 : dI prog_8_method_29_code 31 .iastore 1 32 := by decide +kernel
theorem d_M_digs_32 : decode prog_8_method_29_code 32 = .ok (.return_, 1) := by decide +kernel
theorem d_M_does_0 : dI prog_8_method_30_code 0 (.aload_n 0) 1 1 := by decide +kernel
theorem d_M_does_1 : dI prog_8_method_30_code 1 (.iload_n 1) 1 2 := by decide +kernel
theorem d_M_does_2 : dI prog_8_method_30_code 2 (.invokevirtual 98) 3 5 := by decide +kernel
theorem d_M_does_5 : dI prog_8_method_30_code 5 (.istore_n 2) 1 6 := by decide +kernel
theorem d_M_does_6 : dI prog_8_method_30_code 6 (.aload_n 0) 1 7 := by decide +kernel
theorem d_M_does_7 : dI prog_8_method_30_code 7 (.getfield 7) 3 10 := by decide +kernel
theorem d_M_does_10 : dI prog_8_method_30_code 10 (.bipush 6) 2 12 ∧ (Int8.ofInt 6).toInt32 = 6 := by decide +kernel
theorem d_M_does_12 : dI prog_8_method_30_code 12 .dup2 1 13 := by decide +kernel
theorem d_M_does_13 : dI prog_8_method_30_code 13 .iaload 1 14 := by decide +kernel
theorem d_M_does_14 : dI prog_8_method_30_code 14 (.iload_n 2) 1 15 := by decide +kernel
theorem d_M_does_15 : dI prog_8_method_30_code 15 .isub 1 16 := by decide +kernel
theorem d_M_does_16 : dI prog_8_method_30_code 16 .iastore 1 17 := by decide +kernel
theorem d_M_does_17 : dI prog_8_method_30_code 17 (.aload_n 0) 1 18 := by decide +kernel
theorem d_M_does_18 : dI prog_8_method_30_code 18 (.getfield 7) 3 21 := by decide +kernel
theorem d_M_does_21 : dI prog_8_method_30_code 21 (.bipush 8) 2 23 ∧ (Int8.ofInt 8).toInt32 = 8 := by decide +kernel
theorem d_M_does_23 : dI prog_8_method_30_code 23 .dup2 1 24 := by decide +kernel
theorem d_M_does_24 : dI prog_8_method_30_code 24 .iaload 1 25 := by decide +kernel
theorem d_M_does_25 : dI prog_8_method_30_code 25 (.iload_n 2) 1 26 := by decide +kernel
theorem d_M_does_26 : dI prog_8_method_30_code 26 .iadd 1 27 := by decide +kernel
theorem d_M_does_27 : dI prog_8_method_30_code 27 .iastore 1 28 := by decide +kernel
theorem d_M_does_28 : dI prog_8_method_30_code 28 (.aload_n 0) 1 29 := by decide +kernel
theorem d_M_does_29 : dI prog_8_method_30_code 29 (.getfield 7) 3 32 := by decide +kernel
theorem d_M_does_32 : dI prog_8_method_30_code 32 (.bipush 7) 2 34 ∧ (Int8.ofInt 7).toInt32 = 7 := by decide +kernel
theorem d_M_does_34 : dI prog_8_method_30_code 34 .dup2 1 35 := by decide +kernel
theorem d_M_does_35 : dI prog_8_method_30_code 35 .iaload 1 36 := by decide +kernel
theorem d_M_does_36 : dI prog_8_method_30_code 36 (.aload_n 0) 1 37 := by decide +kernel
theorem d_M_does_37 : dI prog_8_method_30_code 37 (.iload_n 1) 1 38 := by decide +kernel
theorem d_M_does_38 : dI prog_8_method_30_code 38 (.invokevirtual 95) 3 41 := by decide +kernel
theorem d_M_does_41 : dI prog_8_method_30_code 41 .iadd 1 42 := by decide +kernel
theorem d_M_does_42 : dI prog_8_method_30_code 42 .iastore 1 43 := by decide +kernel
theorem d_M_does_43 : dI prog_8_method_30_code 43 (.aload_n 0) 1 44 := by decide +kernel
theorem d_M_does_44 : dI prog_8_method_30_code 44 (.getfield 7) 3 47 := by decide +kernel
theorem d_M_does_47 : dI prog_8_method_30_code 47 (.iconst 0) 1 48 ∧ Int32.ofInt 0 = 0 := by decide +kernel
theorem d_M_does_48 : dI prog_8_method_30_code 48 .iaload 1 49 := by decide +kernel
theorem d_M_does_49 : dI prog_8_method_30_code 49 (.istore_n 3) 1 50 := by decide +kernel
theorem d_M_does_50 : dI prog_8_method_30_code 50 (.aload_n 0) 1 51 := by decide +kernel
theorem d_M_does_51 : dI prog_8_method_30_code 51 (.getfield 7) 3 54 := by decide +kernel
theorem d_M_does_54 : dI prog_8_method_30_code 54 (.iconst 4) 1 55 ∧ Int32.ofInt 4 = 4 := by decide +kernel
theorem d_M_does_55 : dI prog_8_method_30_code 55 .iaload 1 56 := by decide +kernel
theorem d_M_does_56 : dI prog_8_method_30_code 56 (.istore 4) 2 58 := by decide +kernel
theorem d_M_does_58 : dI prog_8_method_30_code 58 (.iload_n 1) 1 59 := by decide +kernel
theorem d_M_does_59 : decode prog_8_method_30_code 59 = .ok (.tableswitch 196 1 7 #[41, 57, 97, 139, 57, 181, 193], 41) := by decide +kernel
theorem d_M_does_100 : dI prog_8_method_30_code 100 (.aload_n 0) 1 101 := by decide +kernel
theorem d_M_does_101 : dI prog_8_method_30_code 101 (.invokevirtual 101) 3 104 := by decide +kernel
theorem d_M_does_104 : dI prog_8_method_30_code 104 (.aload_n 0) 1 105 := by decide +kernel
theorem d_M_does_105 : dI prog_8_method_30_code 105 (.iconst 3) 1 106 ∧ Int32.ofInt 3 = 3 := by decide +kernel
theorem d_M_does_106 : dI prog_8_method_30_code 106 (.iconst 1) 1 107 ∧ Int32.ofInt 1 = 1 := by decide +kernel
theorem d_M_does_107 : dI prog_8_method_30_code 107 (.iconst 0) 1 108 ∧ Int32.ofInt 0 = 0 := by decide +kernel
theorem d_M_does_108 : dI prog_8_method_30_code 108 (.iconst 0) 1 109 ∧ Int32.ofInt 0 = 0 := by decide +kernel
theorem d_M_does_109 : dI prog_8_method_30_code 109 (.iconst 0) 1 110 ∧ Int32.ofInt 0 = 0 := by decide +kernel
theorem d_M_does_110 : dI prog_8_method_30_code 110 (.invokevirtual 104) 3 113 := by decide +kernel
theorem d_M_does_113 : dJ prog_8_method_30_code 113 (.goto 151) 151 116 264 := by decide +kernel
theorem d_M_does_116 : dI prog_8_method_30_code 116 (.aload_n 0) 1 117 := by decide +kernel
theorem d_M_does_117 : dI prog_8_method_30_code 117 (.invokevirtual 101) 3 120 := by decide +kernel
theorem d_M_does_120 : dI prog_8_method_30_code 120 (.aload_n 0) 1 121 := by decide +kernel
theorem d_M_does_121 : dI prog_8_method_30_code 121 (.iload 4) 2 123 := by decide +kernel
theorem d_M_does_123 : dI prog_8_method_30_code 123 (.iconst 2) 1 124 ∧ Int32.ofInt 2 = 2 := by decide +kernel
theorem d_M_does_124 : dJ prog_8_method_30_code 124 (.if_icmp .le 10) 10 127 134 := by decide +kernel
theorem d_M_does_127 : dI prog_8_method_30_code 127 (.iload 4) 2 129 := by decide +kernel
theorem d_M_does_129 : dI prog_8_method_30_code 129 (.iconst 1) 1 130 ∧ Int32.ofInt 1 = 1 := by decide +kernel
theorem d_M_does_130 : dI prog_8_method_30_code 130 .iadd 1 131 := by decide +kernel
theorem d_M_does_131 : dJ prog_8_method_30_code 131 (.goto 4) 4 134 135 := by decide +kernel
theorem d_M_does_134 : dI prog_8_method_30_code 134 (.iconst 3) 1 135 ∧ Int32.ofInt 3 = 3 := by decide +kernel
theorem d_M_does_135 : dI prog_8_method_30_code 135 (.iconst 1) 1 136 ∧ Int32.ofInt 1 = 1 := by decide +kernel
theorem d_M_does_136 : dI prog_8_method_30_code 136 (.iload_n 3) 1 137 := by decide +kernel
theorem d_M_does_137 : dI prog_8_method_30_code 137 (.iload 4) 2 139 := by decide +kernel
theorem d_M_does_139 : dI prog_8_method_30_code 139 (.iload_n 1) 1 140 := by decide +kernel
theorem d_M_does_140 : dI prog_8_method_30_code 140 (.iconst 5) 1 141 ∧ Int32.ofInt 5 = 5 := by decide +kernel
theorem d_M_does_141 : dJ prog_8_method_30_code 141 (.if_icmp .ne 8) 8 144 149 := by decide +kernel
theorem d_M_does_144 : dI prog_8_method_30_code 144 (.bipush 15) 2 146 ∧ (Int8.ofInt 15).toInt32 = 15 := by decide +kernel
theorem d_M_does_146 : dJ prog_8_method_30_code 146 (.goto 4) 4 149 150 := by decide +kernel
theorem d_M_does_149 : dI prog_8_method_30_code 149 (.iconst 0) 1 150 ∧ Int32.ofInt 0 = 0 := by decide +kernel
theorem d_M_does_150 : dI prog_8_method_30_code 150 (.invokevirtual 104) 3 153 := by decide +kernel
theorem d_M_does_153 : dJ prog_8_method_30_code 153 (.goto 111) 111 156 264 := by decide +kernel
theorem d_M_does_156 : dI prog_8_method_30_code 156 (.aload_n 0) 1 157 := by decide +kernel
theorem d_M_does_157 : dI prog_8_method_30_code 157 (.getfield 7) 3 160 := by decide +kernel
theorem d_M_does_160 : dI prog_8_method_30_code 160 (.iconst 2) 1 161 ∧ Int32.ofInt 2 = 2 := by decide +kernel
theorem d_M_does_161 : dI prog_8_method_30_code 161 (.aload_n 0) 1 162 := by decide +kernel
theorem d_M_does_162 : dI prog_8_method_30_code 162 (.getfield 7) 3 165 := by decide +kernel
theorem d_M_does_165 : dI prog_8_method_30_code 165 (.iconst 2) 1 166 ∧ Int32.ofInt 2 = 2 := by decide +kernel
theorem d_M_does_166 : dI prog_8_method_30_code 166 .iaload 1 167 := by decide +kernel
theorem d_M_does_167 : dI prog_8_method_30_code 167 (.bipush 10) 2 169 ∧ (Int8.ofInt 10).toInt32 = 10 := by decide +kernel
theorem d_M_does_169 : dJ prog_8_method_30_code 169 (.if_icmp .ge 7) 7 172 176 := by decide +kernel
theorem d_M_does_172 : dI prog_8_method_30_code 172 (.iconst 0) 1 173 ∧ Int32.ofInt 0 = 0 := by decide +kernel
theorem d_M_does_173 : dJ prog_8_method_30_code 173 (.goto 12) 12 176 185 := by decide +kernel
theorem d_M_does_176 : dI prog_8_method_30_code 176 (.aload_n 0) 1 177 := by decide +kernel
theorem d_M_does_177 : dI prog_8_method_30_code 177 (.getfield 7) 3 180 := by decide +kernel
theorem d_M_does_180 : dI prog_8_method_30_code 180 (.iconst 2) 1 181 ∧ Int32.ofInt 2 = 2 := by decide +kernel
theorem d_M_does_181 : dI prog_8_method_30_code 181 .iaload 1 182 := by decide +kernel
theorem d_M_does_182 : dI prog_8_method_30_code 182 (.bipush 10) 2 184 ∧ (Int8.ofInt 10).toInt32 = 10 := by decide +kernel
theorem d_M_does_184 : dI prog_8_method_30_code 184 .isub 1 185 := by decide +kernel
theorem d_M_does_185 : dI prog_8_method_30_code 185 .iastore 1 186 := by decide +kernel
theorem d_M_does_186 : dI prog_8_method_30_code 186 (.aload_n 0) 1 187 := by decide +kernel
theorem d_M_does_187 : dI prog_8_method_30_code 187 (.iconst 3) 1 188 ∧ Int32.ofInt 3 = 3 := by decide +kernel
theorem d_M_does_188 : dI prog_8_method_30_code 188 (.iconst 1) 1 189 ∧ Int32.ofInt 1 = 1 := by decide +kernel
theorem d_M_does_189 : dI prog_8_method_30_code 189 (.iconst 0) 1 190 ∧ Int32.ofInt 0 = 0 := by decide +kernel
theorem d_M_does_190 : dI prog_8_method_30_code 190 (.iconst 0) 1 191 ∧ Int32.ofInt 0 = 0 := by decide +kernel
theorem d_M_does_191 : dI prog_8_method_30_code 191 (.iconst 0) 1 192 ∧ Int32.ofInt 0 = 0 := by decide +kernel
theorem d_M_does_192 : dI prog_8_method_30_code 192 (.invokevirtual 104) 3 195 := by decide +kernel
theorem d_M_does_195 : dJ prog_8_method_30_code 195 (.goto 69) 69 198 264 := by decide +kernel
theorem d_M_does_198 : dI prog_8_method_30_code 198 (.aload_n 0) 1 199 := by decide +kernel
theorem d_M_does_199 : dI prog_8_method_30_code 199 (.getfield 7) 3 202 := by decide +kernel
theorem d_M_does_202 : dI prog_8_method_30_code 202 (.iconst 3) 1 203 ∧ Int32.ofInt 3 = 3 := by decide +kernel
theorem d_M_does_203 : dI prog_8_method_30_code 203 (.aload_n 0) 1 204 := by decide +kernel
theorem d_M_does_204 : dI prog_8_method_30_code 204 (.getfield 7) 3 207 := by decide +kernel
theorem d_M_does_207 : dI prog_8_method_30_code 207 (.iconst 3) 1 208 ∧ Int32.ofInt 3 = 3 := by decide +kernel
theorem d_M_does_208 : dI prog_8_method_30_code 208 .iaload 1 209 := by decide +kernel
theorem d_M_does_209 : dI prog_8_method_30_code 209 (.bipush 6) 2 211 ∧ (Int8.ofInt 6).toInt32 = 6 := by decide +kernel
theorem d_M_does_211 : dJ prog_8_method_30_code 211 (.if_icmp .le 8) 8 214 219 := by decide +kernel
theorem d_M_does_214 : dI prog_8_method_30_code 214 (.bipush 9) 2 216 ∧ (Int8.ofInt 9).toInt32 = 9 := by decide +kernel
theorem d_M_does_216 : dJ prog_8_method_30_code 216 (.goto 11) 11 219 227 := by decide +kernel
theorem d_M_does_219 : dI prog_8_method_30_code 219 (.aload_n 0) 1 220 := by decide +kernel
theorem d_M_does_220 : dI prog_8_method_30_code 220 (.getfield 7) 3 223 := by decide +kernel
theorem d_M_does_223 : dI prog_8_method_30_code 223 (.iconst 3) 1 224 ∧ Int32.ofInt 3 = 3 := by decide +kernel
theorem d_M_does_224 : dI prog_8_method_30_code 224 .iaload 1 225 := by decide +kernel
theorem d_M_does_225 : dI prog_8_method_30_code 225 (.iconst 3) 1 226 ∧ Int32.ofInt 3 = 3 := by decide +kernel
theorem d_M_does_226 : dI prog_8_method_30_code 226 .iadd 1 227 := by decide +kernel
theorem d_M_does_227 : dI prog_8_method_30_code 227 .iastore 1 228 := by decide +kernel
theorem d_M_does_228 : dI prog_8_method_30_code 228 (.aload_n 0) 1 229 := by decide +kernel
theorem d_M_does_229 : dI prog_8_method_30_code 229 (.iconst 3) 1 230 ∧ Int32.ofInt 3 = 3 := by decide +kernel
theorem d_M_does_230 : dI prog_8_method_30_code 230 (.iconst 1) 1 231 ∧ Int32.ofInt 1 = 1 := by decide +kernel
theorem d_M_does_231 : dI prog_8_method_30_code 231 (.iconst 0) 1 232 ∧ Int32.ofInt 0 = 0 := by decide +kernel
theorem d_M_does_232 : dI prog_8_method_30_code 232 (.iconst 0) 1 233 ∧ Int32.ofInt 0 = 0 := by decide +kernel
theorem d_M_does_233 : dI prog_8_method_30_code 233 (.iconst 0) 1 234 ∧ Int32.ofInt 0 = 0 := by decide +kernel
theorem d_M_does_234 : dI prog_8_method_30_code 234 (.invokevirtual 104) 3 237 := by decide +kernel
theorem d_M_does_237 : dJ prog_8_method_30_code 237 (.goto 27) 27 240 264 := by decide +kernel
theorem d_M_does_240 : dI prog_8_method_30_code 240 (.aload_n 0) 1 241 := by decide +kernel
theorem d_M_does_241 : dI prog_8_method_30_code 241 (.iconst 3) 1 242 ∧ Int32.ofInt 3 = 3 := by decide +kernel
theorem d_M_does_242 : dI prog_8_method_30_code 242 (.iconst (-1)) 1 243 ∧ Int32.ofInt (-1) = (-1) := by decide +kernel
theorem d_M_does_243 : dI prog_8_method_30_code 243 (.iconst 0) 1 244 ∧ Int32.ofInt 0 = 0 := by decide +kernel
theorem d_M_does_244 : dI prog_8_method_30_code 244 (.iconst 0) 1 245 ∧ Int32.ofInt 0 = 0 := by decide +kernel
theorem d_M_does_245 : dI prog_8_method_30_code 245 (.iconst 0) 1 246 ∧ Int32.ofInt 0 = 0 := by decide +kernel
theorem d_M_does_246 : dI prog_8_method_30_code 246 (.invokevirtual 104) 3 249 := by decide +kernel
theorem d_M_does_249 : dJ prog_8_method_30_code 249 (.goto 15) 15 252 264 := by decide +kernel
theorem d_M_does_252 : dJ prog_8_method_30_code 252 (.goto 12) 12 255 264 := by decide +kernel
theorem d_M_does_255 : dI prog_8_method_30_code 255 (.aload_n 0) 1 256 := by decide +kernel
theorem d_M_does_256 : dI prog_8_method_30_code 256 (.iconst 3) 1 257 ∧ Int32.ofInt 3 = 3 := by decide +kernel
theorem d_M_does_257 : dI prog_8_method_30_code 257 (.iconst 1) 1 258 ∧ Int32.ofInt 1 = 1 := by decide +kernel
theorem d_M_does_258 : dI prog_8_method_30_code 258 (.iconst 0) 1 259 ∧ Int32.ofInt 0 = 0 := by decide +kernel
theorem d_M_does_259 : dI prog_8_method_30_code 259 (.iconst 0) 1 260 ∧ Int32.ofInt 0 = 0 := by decide +kernel
theorem d_M_does_260 : dI prog_8_method_30_code 260 (.iconst 0) 1 261 ∧ Int32.ofInt 0 = 0 := by decide +kernel
theorem d_M_does_261 : dI prog_8_method_30_code 261 (.invokevirtual 104) 3 264 := by decide +kernel
theorem d_M_does_264 : decode prog_8_method_30_code 264 = .ok (.return_, 1) := by decide +kernel
theorem d_M_isSlot_0 : dI prog_8_method_31_code 0 (.iload_n 0) 1 1 := by decide +kernel
theorem d_M_isSlot_1 : dI prog_8_method_31_code 1 (.iconst 0) 1 2 ∧ Int32.ofInt 0 = 0 := by decide +kernel
theorem d_M_isSlot_2 : dI prog_8_method_31_code 2 (.bipush 9) 2 4 ∧ (Int8.ofInt 9).toInt32 = 9 := by decide +kernel
theorem d_M_isSlot_4 : dI prog_8_method_31_code 4 (.invokestatic 45) 3 7 := by decide +kernel
theorem d_M_isSlot_7 : decode prog_8_method_31_code 7 = .ok (.ireturn, 1) := by decide +kernel
theorem d_M_isKind_0 : dI prog_8_method_32_code 0 (.iload_n 0) 1 1 := by decide +kernel
theorem d_M_isKind_1 : dI prog_8_method_32_code 1 (.iconst 0) 1 2 ∧ Int32.ofInt 0 = 0 := by decide +kernel
theorem d_M_isKind_2 : dI prog_8_method_32_code 2 (.bipush 7) 2 4 ∧ (Int8.ofInt 7).toInt32 = 7 := by decide +kernel
theorem d_M_isKind_4 : dI prog_8_method_32_code 4 (.invokestatic 45) 3 7 := by decide +kernel
theorem d_M_isKind_7 : decode prog_8_method_32_code 7 = .ok (.ireturn, 1) := by decide +kernel
theorem d_M_effort_0 : dI prog_8_method_33_code 0 (.iload_n 1) 1 1 := by decide +kernel
theorem d_M_effort_1 : dI prog_8_method_33_code 1 (.invokestatic 108) 3 4 := by decide +kernel
theorem d_M_effort_4 : dJ prog_8_method_33_code 4 (.ifCond .eq 15) 15 7 19 := by decide +kernel
theorem d_M_effort_7 : dI prog_8_method_33_code 7 (.iload_n 2) 1 8 := by decide +kernel
theorem d_M_effort_8 : dI prog_8_method_33_code 8 (.iconst (-1)) 1 9 ∧ Int32.ofInt (-1) = (-1) := by decide +kernel
theorem d_M_effort_9 : dJ prog_8_method_33_code 9 (.if_icmp .eq 16) 16 12 25 := by decide +kernel
theorem d_M_effort_12 : dI prog_8_method_33_code 12 (.iload_n 2) 1 13 := by decide +kernel
theorem d_M_effort_13 : dI prog_8_method_33_code 13 (.invokestatic 111) 3 16 := by decide +kernel
theorem d_M_effort_16 : dJ prog_8_method_33_code 16 (.ifCond .ne 9) 9 19 25 := by decide +kernel
theorem d_M_effort_19 : dI prog_8_method_33_code 19 (.aload_n 0) 1 20 := by decide +kernel
theorem d_M_effort_20 : dI prog_8_method_33_code 20 (.iconst 0) 1 21 ∧ Int32.ofInt 0 = 0 := by decide +kernel
theorem d_M_effort_21 : dI prog_8_method_33_code 21 (.invokevirtual 61) 3 24 := by decide +kernel
theorem d_M_effort_24 : decode prog_8_method_33_code 24 = .ok (.ireturn, 1) := by decide +kernel
theorem d_M_effort_25 : dI prog_8_method_33_code 25 (.aload_n 0) 1 26 := by decide +kernel
theorem d_M_effort_26 : dI prog_8_method_33_code 26 (.getfield 7) 3 29 := by decide +kernel
theorem d_M_effort_29 : dI prog_8_method_33_code 29 (.bipush 52) 2 31 ∧ (Int8.ofInt 52).toInt32 = 52 := by decide +kernel
theorem d_M_effort_31 : dI prog_8_method_33_code 31 (.iload_n 1) 1 32 := by decide +kernel
theorem d_M_effort_32 : dI prog_8_method_33_code 32 .iadd 1 33 := by decide +kernel
theorem d_M_effort_33 : dI prog_8_method_33_code 33 (.iload_n 2) 1 34 := by decide +kernel
theorem d_M_effort_34 : dI prog_8_method_33_code 34 .iastore 1 35 := by decide +kernel
theorem d_M_effort_35 : dI prog_8_method_33_code 35 (.iconst 1) 1 36 ∧ Int32.ofInt 1 = 1 := by decide +kernel
theorem d_M_effort_36 : decode prog_8_method_33_code 36 = .ok (.ireturn, 1) := by decide +kernel
theorem d_M_effortOf_0 : dI prog_8_method_34_code 0 (.iload_n 1) 1 1 := by decide +kernel
theorem d_M_effortOf_1 : dI prog_8_method_34_code 1 (.invokestatic 108) 3 4 := by decide +kernel
theorem d_M_effortOf_4 : dJ prog_8_method_34_code 4 (.ifCond .eq 12) 12 7 16 := by decide +kernel
theorem d_M_effortOf_7 : dI prog_8_method_34_code 7 (.iload_n 2) 1 8 := by decide +kernel
theorem d_M_effortOf_8 : dI prog_8_method_34_code 8 (.iconst 0) 1 9 ∧ Int32.ofInt 0 = 0 := by decide +kernel
theorem d_M_effortOf_9 : dI prog_8_method_34_code 9 (.iconst 3) 1 10 ∧ Int32.ofInt 3 = 3 := by decide +kernel
theorem d_M_effortOf_10 : dI prog_8_method_34_code 10 (.invokestatic 45) 3 13 := by decide +kernel
theorem d_M_effortOf_13 : dJ prog_8_method_34_code 13 (.ifCond .ne 9) 9 16 22 := by decide +kernel
theorem d_M_effortOf_16 : dI prog_8_method_34_code 16 (.aload_n 0) 1 17 := by decide +kernel
theorem d_M_effortOf_17 : dI prog_8_method_34_code 17 (.iconst 0) 1 18 ∧ Int32.ofInt 0 = 0 := by decide +kernel
theorem d_M_effortOf_18 : dI prog_8_method_34_code 18 (.invokevirtual 61) 3 21 := by decide +kernel
theorem d_M_effortOf_21 : decode prog_8_method_34_code 21 = .ok (.ireturn, 1) := by decide +kernel
theorem d_M_effortOf_22 : dI prog_8_method_34_code 22 (.aload_n 0) 1 23 := by decide +kernel
theorem d_M_effortOf_23 : dI prog_8_method_34_code 23 (.getfield 7) 3 26 := by decide +kernel
theorem d_M_effortOf_26 : dI prog_8_method_34_code 26 (.bipush 52) 2 28 ∧ (Int8.ofInt 52).toInt32 = 52 := by decide +kernel
theorem d_M_effortOf_28 : dI prog_8_method_34_code 28 (.iload_n 1) 1 29 := by decide +kernel
theorem d_M_effortOf_29 : dI prog_8_method_34_code 29 .iadd 1 30 := by decide +kernel
theorem d_M_effortOf_30 : dI prog_8_method_34_code 30 .iaload 1 31 := by decide +kernel
theorem d_M_effortOf_31 : dI prog_8_method_34_code 31 (.istore_n 3) 1 32 := by decide +kernel
theorem d_M_effortOf_32 : dI prog_8_method_34_code 32 (.iload_n 3) 1 33 := by decide +kernel
theorem d_M_effortOf_33 : dI prog_8_method_34_code 33 (.iconst (-1)) 1 34 ∧ Int32.ofInt (-1) = (-1) := by decide +kernel
theorem d_M_effortOf_34 : dJ prog_8_method_34_code 34 (.if_icmp .ne 9) 9 37 43 := by decide +kernel
theorem d_M_effortOf_37 : dI prog_8_method_34_code 37 (.aload_n 0) 1 38 := by decide +kernel
theorem d_M_effortOf_38 : dI prog_8_method_34_code 38 (.iconst 3) 1 39 ∧ Int32.ofInt 3 = 3 := by decide +kernel
theorem d_M_effortOf_39 : dI prog_8_method_34_code 39 (.invokevirtual 61) 3 42 := by decide +kernel
theorem d_M_effortOf_42 : decode prog_8_method_34_code 42 = .ok (.ireturn, 1) := by decide +kernel
theorem d_M_effortOf_43 : dI prog_8_method_34_code 43 (.iload_n 2) 1 44 := by decide +kernel
theorem d_M_effortOf_44 : dJ prog_8_method_34_code 44 (.ifCond .ne 7) 7 47 51 := by decide +kernel
theorem d_M_effortOf_47 : dI prog_8_method_34_code 47 (.iload_n 3) 1 48 := by decide +kernel
theorem d_M_effortOf_48 : dJ prog_8_method_34_code 48 (.goto 33) 33 51 81 := by decide +kernel
theorem d_M_effortOf_51 : dI prog_8_method_34_code 51 (.iload_n 2) 1 52 := by decide +kernel
theorem d_M_effortOf_52 : dI prog_8_method_34_code 52 (.iconst 1) 1 53 ∧ Int32.ofInt 1 = 1 := by decide +kernel
theorem d_M_effortOf_53 : dJ prog_8_method_34_code 53 (.if_icmp .ne 11) 11 56 64 := by decide +kernel
theorem d_M_effortOf_56 : dI prog_8_method_34_code 56 (.aload_n 0) 1 57 := by decide +kernel
theorem d_M_effortOf_57 : dI prog_8_method_34_code 57 (.iload_n 3) 1 58 := by decide +kernel
theorem d_M_effortOf_58 : dI prog_8_method_34_code 58 (.invokevirtual 95) 3 61 := by decide +kernel
theorem d_M_effortOf_61 : dJ prog_8_method_34_code 61 (.goto 20) 20 64 81 := by decide +kernel
theorem d_M_effortOf_64 : dI prog_8_method_34_code 64 (.iload_n 2) 1 65 := by decide +kernel
theorem d_M_effortOf_65 : dI prog_8_method_34_code 65 (.iconst 2) 1 66 ∧ Int32.ofInt 2 = 2 := by decide +kernel
theorem d_M_effortOf_66 : dJ prog_8_method_34_code 66 (.if_icmp .ne 10) 10 69 76 := by decide +kernel
theorem d_M_effortOf_69 : dI prog_8_method_34_code 69 (.iload_n 3) 1 70 := by decide +kernel
theorem d_M_effortOf_70 : dI prog_8_method_34_code 70 (.invokestatic 92) 3 73 := by decide +kernel
theorem d_M_effortOf_73 : dJ prog_8_method_34_code 73 (.goto 8) 8 76 81 := by decide +kernel
theorem d_M_effortOf_76 : dI prog_8_method_34_code 76 (.aload_n 0) 1 77 := by decide +kernel
theorem d_M_effortOf_77 : dI prog_8_method_34_code 77 (.iload_n 3) 1 78 := by decide +kernel
theorem d_M_effortOf_78 : dI prog_8_method_34_code 78 (.invokevirtual 98) 3 81 := by decide +kernel
theorem d_M_effortOf_81 : decode prog_8_method_34_code 81 = .ok (.ireturn, 1) := by decide +kernel
theorem d_M_go_0 : dI prog_8_method_35_code 0 (.iload_n 1) 1 1 := by decide +kernel
theorem d_M_go_1 : dI prog_8_method_35_code 1 (.invokestatic 108) 3 4 := by decide +kernel
theorem d_M_go_4 : dJ prog_8_method_35_code 4 (.ifCond .ne 9) 9 7 13 := by decide +kernel
theorem d_M_go_7 : dI prog_8_method_35_code 7 (.aload_n 0) 1 8 := by decide +kernel
theorem d_M_go_8 : dI prog_8_method_35_code 8 (.iconst 0) 1 9 ∧ Int32.ofInt 0 = 0 := by decide +kernel
theorem d_M_go_9 : dI prog_8_method_35_code 9 (.invokevirtual 61) 3 12 := by decide +kernel
theorem d_M_go_12 : decode prog_8_method_35_code 12 = .ok (.ireturn, 1) := by decide +kernel
theorem d_M_go_13 : dI prog_8_method_35_code 13 (.aload_n 0) 1 14 := by decide +kernel
theorem d_M_go_14 : dI prog_8_method_35_code 14 (.getfield 7) 3 17 := by decide +kernel
theorem d_M_go_17 : dI prog_8_method_35_code 17 (.bipush 52) 2 19 ∧ (Int8.ofInt 52).toInt32 = 52 := by decide +kernel
theorem d_M_go_19 : dI prog_8_method_35_code 19 (.iload_n 1) 1 20 := by decide +kernel
theorem d_M_go_20 : dI prog_8_method_35_code 20 .iadd 1 21 := by decide +kernel
theorem d_M_go_21 : dI prog_8_method_35_code 21 .iaload 1 22 := by decide +kernel
theorem d_M_go_22 : dI prog_8_method_35_code 22 (.istore_n 2) 1 23 := by decide +kernel
theorem d_M_go_23 : dI prog_8_method_35_code 23 (.iload_n 2) 1 24 := by decide +kernel
theorem d_M_go_24 : dI prog_8_method_35_code 24 (.iconst (-1)) 1 25 ∧ Int32.ofInt (-1) = (-1) := by decide +kernel
theorem d_M_go_25 : dJ prog_8_method_35_code 25 (.if_icmp .ne 9) 9 28 34 := by decide +kernel
theorem d_M_go_28 : dI prog_8_method_35_code 28 (.aload_n 0) 1 29 := by decide +kernel
theorem d_M_go_29 : dI prog_8_method_35_code 29 (.iconst 3) 1 30 ∧ Int32.ofInt 3 = 3 := by decide +kernel
theorem d_M_go_30 : dI prog_8_method_35_code 30 (.invokevirtual 61) 3 33 := by decide +kernel
theorem d_M_go_33 : decode prog_8_method_35_code 33 = .ok (.ireturn, 1) := by decide +kernel
theorem d_M_go_34 : dI prog_8_method_35_code 34 (.aload_n 0) 1 35 := by decide +kernel
theorem d_M_go_35 : dI prog_8_method_35_code 35 (.iload_n 2) 1 36 := by decide +kernel
theorem d_M_go_36 : dI prog_8_method_35_code 36 (.invokevirtual 114) 3 39 := by decide +kernel
theorem d_M_go_39 : dJ prog_8_method_35_code 39 (.ifCond .ne 9) 9 42 48 := by decide +kernel
theorem d_M_go_42 : dI prog_8_method_35_code 42 (.aload_n 0) 1 43 := by decide +kernel
theorem d_M_go_43 : dI prog_8_method_35_code 43 (.iconst 4) 1 44 ∧ Int32.ofInt 4 = 4 := by decide +kernel
theorem d_M_go_44 : dI prog_8_method_35_code 44 (.invokevirtual 61) 3 47 := by decide +kernel
theorem d_M_go_47 : decode prog_8_method_35_code 47 = .ok (.ireturn, 1) := by decide +kernel
theorem d_M_go_48 : dI prog_8_method_35_code 48 (.aload_n 0) 1 49 := by decide +kernel
theorem d_M_go_49 : dI prog_8_method_35_code 49 (.getfield 7) 3 52 := by decide +kernel
theorem d_M_go_52 : dI prog_8_method_35_code 52 (.iconst 0) 1 53 ∧ Int32.ofInt 0 = 0 := by decide +kernel
theorem d_M_go_53 : dI prog_8_method_35_code 53 .iaload 1 54 := by decide +kernel
theorem d_M_go_54 : dI prog_8_method_35_code 54 (.istore_n 3) 1 55 := by decide +kernel
theorem d_M_go_55 : dI prog_8_method_35_code 55 (.aload_n 0) 1 56 := by decide +kernel
theorem d_M_go_56 : dI prog_8_method_35_code 56 (.iload_n 2) 1 57 := by decide +kernel
theorem d_M_go_57 : dI prog_8_method_35_code 57 (.invokevirtual 117) 3 60 := by decide +kernel
theorem d_M_go_60 : dI prog_8_method_35_code 60 (.aload_n 0) 1 61 := by decide +kernel
theorem d_M_go_61 : dI prog_8_method_35_code 61 (.getfield 7) 3 64 := by decide +kernel
theorem d_M_go_64 : dI prog_8_method_35_code 64 (.iconst 0) 1 65 ∧ Int32.ofInt 0 = 0 := by decide +kernel
theorem d_M_go_65 : dI prog_8_method_35_code 65 .iaload 1 66 := by decide +kernel
theorem d_M_go_66 : dI prog_8_method_35_code 66 (.iload_n 3) 1 67 := by decide +kernel
theorem d_M_go_67 : dI prog_8_method_35_code 67 .isub 1 68 := by decide +kernel
theorem d_M_go_68 : decode prog_8_method_35_code 68 = .ok (.ireturn, 1) := by decide +kernel
theorem d_M_became_0 : dI prog_8_method_36_code 0 (.iload_n 1) 1 1 := by decide +kernel
theorem d_M_became_1 : dJ prog_8_method_36_code 1 (.ifCond .ne 19) 19 4 20 := by decide +kernel
theorem d_M_became_4 : dI prog_8_method_36_code 4 (.aload_n 0) 1 5 := by decide +kernel
theorem d_M_became_5 : dI prog_8_method_36_code 5 (.getfield 7) 3 8 := by decide +kernel
theorem d_M_became_8 : dI prog_8_method_36_code 8 (.iconst 0) 1 9 ∧ Int32.ofInt 0 = 0 := by decide +kernel
theorem d_M_became_9 : dI prog_8_method_36_code 9 .iaload 1 10 := by decide +kernel
theorem d_M_became_10 : dI prog_8_method_36_code 10 (.aload_n 0) 1 11 := by decide +kernel
theorem d_M_became_11 : dI prog_8_method_36_code 11 (.getfield 16) 3 14 := by decide +kernel
theorem d_M_became_14 : dI prog_8_method_36_code 14 (.iconst 0) 1 15 ∧ Int32.ofInt 0 = 0 := by decide +kernel
theorem d_M_became_15 : dI prog_8_method_36_code 15 .iaload 1 16 := by decide +kernel
theorem d_M_became_16 : dI prog_8_method_36_code 16 .isub 1 17 := by decide +kernel
theorem d_M_became_17 : dJ prog_8_method_36_code 17 (.goto 55) 55 20 72 := by decide +kernel
theorem d_M_became_20 : dI prog_8_method_36_code 20 (.iload_n 1) 1 21 := by decide +kernel
theorem d_M_became_21 : dI prog_8_method_36_code 21 (.iconst 1) 1 22 ∧ Int32.ofInt 1 = 1 := by decide +kernel
theorem d_M_became_22 : dJ prog_8_method_36_code 22 (.if_icmp .ne 21) 21 25 43 := by decide +kernel
theorem d_M_became_25 : dI prog_8_method_36_code 25 (.aload_n 0) 1 26 := by decide +kernel
theorem d_M_became_26 : dI prog_8_method_36_code 26 (.getfield 7) 3 29 := by decide +kernel
theorem d_M_became_29 : dI prog_8_method_36_code 29 (.bipush 7) 2 31 ∧ (Int8.ofInt 7).toInt32 = 7 := by decide +kernel
theorem d_M_became_31 : dI prog_8_method_36_code 31 .iaload 1 32 := by decide +kernel
theorem d_M_became_32 : dI prog_8_method_36_code 32 (.aload_n 0) 1 33 := by decide +kernel
theorem d_M_became_33 : dI prog_8_method_36_code 33 (.getfield 16) 3 36 := by decide +kernel
theorem d_M_became_36 : dI prog_8_method_36_code 36 (.bipush 7) 2 38 ∧ (Int8.ofInt 7).toInt32 = 7 := by decide +kernel
theorem d_M_became_38 : dI prog_8_method_36_code 38 .iaload 1 39 := by decide +kernel
theorem d_M_became_39 : dI prog_8_method_36_code 39 .isub 1 40 := by decide +kernel
theorem d_M_became_40 : dJ prog_8_method_36_code 40 (.goto 32) 32 43 72 := by decide +kernel
theorem d_M_became_43 : dI prog_8_method_36_code 43 (.iload_n 1) 1 44 := by decide +kernel
theorem d_M_became_44 : dI prog_8_method_36_code 44 (.iconst 2) 1 45 ∧ Int32.ofInt 2 = 2 := by decide +kernel
theorem d_M_became_45 : dJ prog_8_method_36_code 45 (.if_icmp .ne 21) 21 48 66 := by decide +kernel
theorem d_M_became_48 : dI prog_8_method_36_code 48 (.aload_n 0) 1 49 := by decide +kernel
theorem d_M_became_49 : dI prog_8_method_36_code 49 (.getfield 7) 3 52 := by decide +kernel
theorem d_M_became_52 : dI prog_8_method_36_code 52 (.bipush 8) 2 54 ∧ (Int8.ofInt 8).toInt32 = 8 := by decide +kernel
theorem d_M_became_54 : dI prog_8_method_36_code 54 .iaload 1 55 := by decide +kernel
theorem d_M_became_55 : dI prog_8_method_36_code 55 (.aload_n 0) 1 56 := by decide +kernel
theorem d_M_became_56 : dI prog_8_method_36_code 56 (.getfield 16) 3 59 := by decide +kernel
theorem d_M_became_59 : dI prog_8_method_36_code 59 (.bipush 8) 2 61 ∧ (Int8.ofInt 8).toInt32 = 8 := by decide +kernel
theorem d_M_became_61 : dI prog_8_method_36_code 61 .iaload 1 62 := by decide +kernel
theorem d_M_became_62 : dI prog_8_method_36_code 62 .isub 1 63 := by decide +kernel
theorem d_M_became_63 : dJ prog_8_method_36_code 63 (.goto 9) 9 66 72 := by decide +kernel
theorem d_M_became_66 : dI prog_8_method_36_code 66 (.aload_n 0) 1 67 := by decide +kernel
theorem d_M_became_67 : dI prog_8_method_36_code 67 (.getfield 7) 3 70 := by decide +kernel
theorem d_M_became_70 : dI prog_8_method_36_code 70 (.iconst 1) 1 71 ∧ Int32.ofInt 1 = 1 := by decide +kernel
theorem d_M_became_71 : dI prog_8_method_36_code 71 .iaload 1 72 := by decide +kernel
theorem d_M_became_72 : dI prog_8_method_36_code 72 (.istore_n 2) 1 73 := by decide +kernel
theorem d_M_became_73 : dI prog_8_method_36_code 73 (.aload_n 0) 1 74 := by decide +kernel
theorem d_M_became_74 : dI prog_8_method_36_code 74 (.invokevirtual 121) 3 77 := by decide +kernel
theorem d_M_became_77 : dI prog_8_method_36_code 77 (.iload_n 2) 1 78 := by decide +kernel
theorem d_M_became_78 : decode prog_8_method_36_code 78 = .ok (.ireturn, 1) := by decide +kernel
theorem d_M_gives_0 : dI prog_8_method_37_code 0 (.iload_n 1) 1 1 := by decide +kernel
theorem d_M_gives_1 : dI prog_8_method_37_code 1 (.invokestatic 108) 3 4 := by decide +kernel
theorem d_M_gives_4 : dJ prog_8_method_37_code 4 (.ifCond .eq 12) 12 7 16 := by decide +kernel
theorem d_M_gives_7 : dI prog_8_method_37_code 7 (.iload_n 2) 1 8 := by decide +kernel
theorem d_M_gives_8 : dI prog_8_method_37_code 8 (.iconst 0) 1 9 ∧ Int32.ofInt 0 = 0 := by decide +kernel
theorem d_M_gives_9 : dI prog_8_method_37_code 9 (.iconst 3) 1 10 ∧ Int32.ofInt 3 = 3 := by decide +kernel
theorem d_M_gives_10 : dI prog_8_method_37_code 10 (.invokestatic 45) 3 13 := by decide +kernel
theorem d_M_gives_13 : dJ prog_8_method_37_code 13 (.ifCond .ne 9) 9 16 22 := by decide +kernel
theorem d_M_gives_16 : dI prog_8_method_37_code 16 (.aload_n 0) 1 17 := by decide +kernel
theorem d_M_gives_17 : dI prog_8_method_37_code 17 (.iconst 0) 1 18 ∧ Int32.ofInt 0 = 0 := by decide +kernel
theorem d_M_gives_18 : dI prog_8_method_37_code 18 (.invokevirtual 61) 3 21 := by decide +kernel
theorem d_M_gives_21 : decode prog_8_method_37_code 21 = .ok (.ireturn, 1) := by decide +kernel
theorem d_M_gives_22 : dI prog_8_method_37_code 22 (.aload_n 0) 1 23 := by decide +kernel
theorem d_M_gives_23 : dI prog_8_method_37_code 23 (.getfield 7) 3 26 := by decide +kernel
theorem d_M_gives_26 : dI prog_8_method_37_code 26 (.bipush 52) 2 28 ∧ (Int8.ofInt 52).toInt32 = 52 := by decide +kernel
theorem d_M_gives_28 : dI prog_8_method_37_code 28 (.iload_n 1) 1 29 := by decide +kernel
theorem d_M_gives_29 : dI prog_8_method_37_code 29 .iadd 1 30 := by decide +kernel
theorem d_M_gives_30 : dI prog_8_method_37_code 30 .iaload 1 31 := by decide +kernel
theorem d_M_gives_31 : dI prog_8_method_37_code 31 (.istore_n 3) 1 32 := by decide +kernel
theorem d_M_gives_32 : dI prog_8_method_37_code 32 (.iload_n 3) 1 33 := by decide +kernel
theorem d_M_gives_33 : dI prog_8_method_37_code 33 (.iconst (-1)) 1 34 ∧ Int32.ofInt (-1) = (-1) := by decide +kernel
theorem d_M_gives_34 : dJ prog_8_method_37_code 34 (.if_icmp .ne 9) 9 37 43 := by decide +kernel
theorem d_M_gives_37 : dI prog_8_method_37_code 37 (.aload_n 0) 1 38 := by decide +kernel
theorem d_M_gives_38 : dI prog_8_method_37_code 38 (.iconst 3) 1 39 ∧ Int32.ofInt 3 = 3 := by decide +kernel
theorem d_M_gives_39 : dI prog_8_method_37_code 39 (.invokevirtual 61) 3 42 := by decide +kernel
theorem d_M_gives_42 : decode prog_8_method_37_code 42 = .ok (.ireturn, 1) := by decide +kernel
theorem d_M_gives_43 : dI prog_8_method_37_code 43 (.aload_n 0) 1 44 := by decide +kernel
theorem d_M_gives_44 : dI prog_8_method_37_code 44 (.iload_n 3) 1 45 := by decide +kernel
theorem d_M_gives_45 : dI prog_8_method_37_code 45 (.invokevirtual 114) 3 48 := by decide +kernel
theorem d_M_gives_48 : dJ prog_8_method_37_code 48 (.ifCond .ne 9) 9 51 57 := by decide +kernel
theorem d_M_gives_51 : dI prog_8_method_37_code 51 (.aload_n 0) 1 52 := by decide +kernel
theorem d_M_gives_52 : dI prog_8_method_37_code 52 (.iconst 4) 1 53 ∧ Int32.ofInt 4 = 4 := by decide +kernel
theorem d_M_gives_53 : dI prog_8_method_37_code 53 (.invokevirtual 61) 3 56 := by decide +kernel
theorem d_M_gives_56 : decode prog_8_method_37_code 56 = .ok (.ireturn, 1) := by decide +kernel
theorem d_M_gives_57 : dI prog_8_method_37_code 57 (.aload_n 0) 1 58 := by decide +kernel
theorem d_M_gives_58 : dI prog_8_method_37_code 58 (.invokevirtual 124) 3 61 := by decide +kernel
theorem d_M_gives_61 : dI prog_8_method_37_code 61 (.aload_n 0) 1 62 := by decide +kernel
theorem d_M_gives_62 : dI prog_8_method_37_code 62 (.iload_n 3) 1 63 := by decide +kernel
theorem d_M_gives_63 : dI prog_8_method_37_code 63 (.invokevirtual 117) 3 66 := by decide +kernel
theorem d_M_gives_66 : dI prog_8_method_37_code 66 (.aload_n 0) 1 67 := by decide +kernel
theorem d_M_gives_67 : dI prog_8_method_37_code 67 (.iload_n 2) 1 68 := by decide +kernel
theorem d_M_gives_68 : dI prog_8_method_37_code 68 (.invokevirtual 127) 3 71 := by decide +kernel
theorem d_M_gives_71 : decode prog_8_method_37_code 71 = .ok (.ireturn, 1) := by decide +kernel
theorem d_M_again_0 : dI prog_8_method_38_code 0 (.iconst 0) 1 1 ∧ Int32.ofInt 0 = 0 := by decide +kernel
theorem d_M_again_1 : dI prog_8_method_38_code 1 (.istore_n 3) 1 2 := by decide +kernel
theorem d_M_again_2 : dI prog_8_method_38_code 2 (.iload_n 3) 1 3 := by decide +kernel
theorem d_M_again_3 : dI prog_8_method_38_code 3 (.iload_n 2) 1 4 := by decide +kernel
theorem d_M_again_4 : dJ prog_8_method_38_code 4 (.if_icmp .ge 22) 22 7 26 := by decide +kernel
theorem d_M_again_7 : dI prog_8_method_38_code 7 (.aload_n 0) 1 8 := by decide +kernel
theorem d_M_again_8 : dI prog_8_method_38_code 8 (.iload_n 1) 1 9 := by decide +kernel
theorem d_M_again_9 : dI prog_8_method_38_code 9 (.invokevirtual 114) 3 12 := by decide +kernel
theorem d_M_again_12 : dJ prog_8_method_38_code 12 (.ifCond .eq 14) 14 15 26 := by decide +kernel
theorem d_M_again_15 : dI prog_8_method_38_code 15 (.aload_n 0) 1 16 := by decide +kernel
theorem d_M_again_16 : dI prog_8_method_38_code 16 (.iload_n 1) 1 17 := by decide +kernel
theorem d_M_again_17 : dI prog_8_method_38_code 17 (.invokevirtual 117) 3 20 := by decide +kernel
theorem d_M_again_20 : dI prog_8_method_38_code 20 (.iinc 3 1) 3 23 ∧ Int32.ofInt 1 = 1 := by decide +kernel
theorem d_M_again_23 : dJ prog_8_method_38_code 23 (.goto (-21)) (-21) 26 2 := by decide +kernel
theorem d_M_again_26 : dI prog_8_method_38_code 26 (.iload_n 3) 1 27 := by decide +kernel
theorem d_M_again_27 : decode prog_8_method_38_code 27 = .ok (.ireturn, 1) := by decide +kernel
theorem d_M_lasts_0 : dI prog_8_method_39_code 0 (.iload_n 1) 1 1 := by decide +kernel
theorem d_M_lasts_1 : dI prog_8_method_39_code 1 (.invokestatic 108) 3 4 := by decide +kernel
theorem d_M_lasts_4 : dJ prog_8_method_39_code 4 (.ifCond .ne 9) 9 7 13 := by decide +kernel
theorem d_M_lasts_7 : dI prog_8_method_39_code 7 (.aload_n 0) 1 8 := by decide +kernel
theorem d_M_lasts_8 : dI prog_8_method_39_code 8 (.iconst 0) 1 9 ∧ Int32.ofInt 0 = 0 := by decide +kernel
theorem d_M_lasts_9 : dI prog_8_method_39_code 9 (.invokevirtual 61) 3 12 := by decide +kernel
theorem d_M_lasts_12 : decode prog_8_method_39_code 12 = .ok (.ireturn, 1) := by decide +kernel
theorem d_M_lasts_13 : dI prog_8_method_39_code 13 (.aload_n 0) 1 14 := by decide +kernel
theorem d_M_lasts_14 : dI prog_8_method_39_code 14 (.getfield 7) 3 17 := by decide +kernel
theorem d_M_lasts_17 : dI prog_8_method_39_code 17 (.bipush 52) 2 19 ∧ (Int8.ofInt 52).toInt32 = 52 := by decide +kernel
theorem d_M_lasts_19 : dI prog_8_method_39_code 19 (.iload_n 1) 1 20 := by decide +kernel
theorem d_M_lasts_20 : dI prog_8_method_39_code 20 .iadd 1 21 := by decide +kernel
theorem d_M_lasts_21 : dI prog_8_method_39_code 21 .iaload 1 22 := by decide +kernel
theorem d_M_lasts_22 : dI prog_8_method_39_code 22 (.iconst (-1)) 1 23 ∧ Int32.ofInt (-1) = (-1) := by decide +kernel
theorem d_M_lasts_23 : dJ prog_8_method_39_code 23 (.if_icmp .ne 9) 9 26 32 := by decide +kernel
theorem d_M_lasts_26 : dI prog_8_method_39_code 26 (.aload_n 0) 1 27 := by decide +kernel
theorem d_M_lasts_27 : dI prog_8_method_39_code 27 (.iconst 3) 1 28 ∧ Int32.ofInt 3 = 3 := by decide +kernel
theorem d_M_lasts_28 : dI prog_8_method_39_code 28 (.invokevirtual 61) 3 31 := by decide +kernel
theorem d_M_lasts_31 : decode prog_8_method_39_code 31 = .ok (.ireturn, 1) := by decide +kernel
theorem d_M_lasts_32 : dI prog_8_method_39_code 32 (.aload_n 0) 1 33 := by decide +kernel
theorem d_M_lasts_33 : dI prog_8_method_39_code 33 (.invokevirtual 124) 3 36 := by decide +kernel
theorem d_M_lasts_36 : dI prog_8_method_39_code 36 (.aload_n 0) 1 37 := by decide +kernel
theorem d_M_lasts_37 : dI prog_8_method_39_code 37 (.aload_n 0) 1 38 := by decide +kernel
theorem d_M_lasts_38 : dI prog_8_method_39_code 38 (.getfield 7) 3 41 := by decide +kernel
theorem d_M_lasts_41 : dI prog_8_method_39_code 41 (.bipush 52) 2 43 ∧ (Int8.ofInt 52).toInt32 = 52 := by decide +kernel
theorem d_M_lasts_43 : dI prog_8_method_39_code 43 (.iload_n 1) 1 44 := by decide +kernel
theorem d_M_lasts_44 : dI prog_8_method_39_code 44 .iadd 1 45 := by decide +kernel
theorem d_M_lasts_45 : dI prog_8_method_39_code 45 .iaload 1 46 := by decide +kernel
theorem d_M_lasts_46 : dI prog_8_method_39_code 46 (.bipush 50) 2 48 ∧ (Int8.ofInt 50).toInt32 = 50 := by decide +kernel
theorem d_M_lasts_48 : dI prog_8_method_39_code 48 (.invokevirtual 130) 3 51 := by decide +kernel
theorem d_M_lasts_51 : dI prog_8_method_39_code 51 (.istore_n 2) 1 52 := by decide +kernel
theorem d_M_lasts_52 : dI prog_8_method_39_code 52 (.aload_n 0) 1 53 := by decide +kernel
theorem d_M_lasts_53 : dI prog_8_method_39_code 53 (.invokevirtual 121) 3 56 := by decide +kernel
theorem d_M_lasts_56 : dI prog_8_method_39_code 56 (.iload_n 2) 1 57 := by decide +kernel
theorem d_M_lasts_57 : decode prog_8_method_39_code 57 = .ok (.ireturn, 1) := by decide +kernel
theorem d_M_out_0 : dI prog_8_method_40_code 0 (.iload_n 1) 1 1 := by decide +kernel
theorem d_M_out_1 : dI prog_8_method_40_code 1 (.invokestatic 108) 3 4 := by decide +kernel
theorem d_M_out_4 : dJ prog_8_method_40_code 4 (.ifCond .ne 9) 9 7 13 := by decide +kernel
theorem d_M_out_7 : dI prog_8_method_40_code 7 (.aload_n 0) 1 8 := by decide +kernel
theorem d_M_out_8 : dI prog_8_method_40_code 8 (.iconst 0) 1 9 ∧ Int32.ofInt 0 = 0 := by decide +kernel
theorem d_M_out_9 : dI prog_8_method_40_code 9 (.invokevirtual 61) 3 12 := by decide +kernel
theorem d_M_out_12 : decode prog_8_method_40_code 12 = .ok (.ireturn, 1) := by decide +kernel
theorem d_M_out_13 : dI prog_8_method_40_code 13 (.aload_n 0) 1 14 := by decide +kernel
theorem d_M_out_14 : dI prog_8_method_40_code 14 (.getfield 7) 3 17 := by decide +kernel
theorem d_M_out_17 : dI prog_8_method_40_code 17 (.bipush 52) 2 19 ∧ (Int8.ofInt 52).toInt32 = 52 := by decide +kernel
theorem d_M_out_19 : dI prog_8_method_40_code 19 (.iload_n 1) 1 20 := by decide +kernel
theorem d_M_out_20 : dI prog_8_method_40_code 20 .iadd 1 21 := by decide +kernel
theorem d_M_out_21 : dI prog_8_method_40_code 21 .iaload 1 22 := by decide +kernel
theorem d_M_out_22 : dI prog_8_method_40_code 22 (.iconst (-1)) 1 23 ∧ Int32.ofInt (-1) = (-1) := by decide +kernel
theorem d_M_out_23 : dJ prog_8_method_40_code 23 (.if_icmp .ne 9) 9 26 32 := by decide +kernel
theorem d_M_out_26 : dI prog_8_method_40_code 26 (.aload_n 0) 1 27 := by decide +kernel
theorem d_M_out_27 : dI prog_8_method_40_code 27 (.iconst 3) 1 28 ∧ Int32.ofInt 3 = 3 := by decide +kernel
theorem d_M_out_28 : dI prog_8_method_40_code 28 (.invokevirtual 61) 3 31 := by decide +kernel
theorem d_M_out_31 : decode prog_8_method_40_code 31 = .ok (.ireturn, 1) := by decide +kernel
theorem d_M_out_32 : dI prog_8_method_40_code 32 (.aload_n 0) 1 33 := by decide +kernel
theorem d_M_out_33 : dI prog_8_method_40_code 33 (.aload_n 0) 1 34 := by decide +kernel
theorem d_M_out_34 : dI prog_8_method_40_code 34 (.getfield 7) 3 37 := by decide +kernel
theorem d_M_out_37 : dI prog_8_method_40_code 37 (.bipush 52) 2 39 ∧ (Int8.ofInt 52).toInt32 = 52 := by decide +kernel
theorem d_M_out_39 : dI prog_8_method_40_code 39 (.iload_n 1) 1 40 := by decide +kernel
theorem d_M_out_40 : dI prog_8_method_40_code 40 .iadd 1 41 := by decide +kernel
theorem d_M_out_41 : dI prog_8_method_40_code 41 .iaload 1 42 := by decide +kernel
theorem d_M_out_42 : dI prog_8_method_40_code 42 (.bipush 50) 2 44 ∧ (Int8.ofInt 50).toInt32 = 50 := by decide +kernel
theorem d_M_out_44 : dI prog_8_method_40_code 44 (.invokevirtual 133) 3 47 := by decide +kernel
theorem d_M_out_47 : dI prog_8_method_40_code 47 (.istore_n 2) 1 48 := by decide +kernel
theorem d_M_out_48 : dI prog_8_method_40_code 48 (.iload_n 2) 1 49 := by decide +kernel
theorem d_M_out_49 : dJ prog_8_method_40_code 49 (.ifCond .ge 11) 11 52 60 := by decide +kernel
theorem d_M_out_52 : dI prog_8_method_40_code 52 (.aload_n 0) 1 53 := by decide +kernel
theorem d_M_out_53 : dI prog_8_method_40_code 53 (.iconst 3) 1 54 ∧ Int32.ofInt 3 = 3 := by decide +kernel
theorem d_M_out_54 : dI prog_8_method_40_code 54 (.invokevirtual 61) 3 57 := by decide +kernel
theorem d_M_out_57 : dJ prog_8_method_40_code 57 (.goto 4) 4 60 61 := by decide +kernel
theorem d_M_out_60 : dI prog_8_method_40_code 60 (.iload_n 2) 1 61 := by decide +kernel
theorem d_M_out_61 : decode prog_8_method_40_code 61 = .ok (.ireturn, 1) := by decide +kernel
theorem d_M_outBy_0 : dI prog_8_method_41_code 0 (.aload_n 0) 1 1 := by decide +kernel
theorem d_M_outBy_1 : dI prog_8_method_41_code 1 (.invokevirtual 124) 3 4 := by decide +kernel
theorem d_M_outBy_4 : dI prog_8_method_41_code 4 (.aload_n 0) 1 5 := by decide +kernel
theorem d_M_outBy_5 : dI prog_8_method_41_code 5 (.iload_n 1) 1 6 := by decide +kernel
theorem d_M_outBy_6 : dI prog_8_method_41_code 6 (.iload_n 2) 1 7 := by decide +kernel
theorem d_M_outBy_7 : dI prog_8_method_41_code 7 (.invokevirtual 130) 3 10 := by decide +kernel
theorem d_M_outBy_10 : dI prog_8_method_41_code 10 (.istore_n 3) 1 11 := by decide +kernel
theorem d_M_outBy_11 : dI prog_8_method_41_code 11 (.aload_n 0) 1 12 := by decide +kernel
theorem d_M_outBy_12 : dI prog_8_method_41_code 12 (.invokevirtual 81) 3 15 := by decide +kernel
theorem d_M_outBy_15 : dJ prog_8_method_41_code 15 (.ifCond .eq 7) 7 18 22 := by decide +kernel
theorem d_M_outBy_18 : dI prog_8_method_41_code 18 (.iload_n 3) 1 19 := by decide +kernel
theorem d_M_outBy_19 : dJ prog_8_method_41_code 19 (.goto 4) 4 22 23 := by decide +kernel
theorem d_M_outBy_22 : dI prog_8_method_41_code 22 (.iconst (-1)) 1 23 ∧ Int32.ofInt (-1) = (-1) := by decide +kernel
theorem d_M_outBy_23 : dI prog_8_method_41_code 23 (.istore_n 3) 1 24 := by decide +kernel
theorem d_M_outBy_24 : dI prog_8_method_41_code 24 (.aload_n 0) 1 25 := by decide +kernel
theorem d_M_outBy_25 : dI prog_8_method_41_code 25 (.invokevirtual 121) 3 28 := by decide +kernel
theorem d_M_outBy_28 : dI prog_8_method_41_code 28 (.iload_n 3) 1 29 := by decide +kernel
theorem d_M_outBy_29 : decode prog_8_method_41_code 29 = .ok (.ireturn, 1) := by decide +kernel
theorem d_M_when_0 : dI prog_8_method_42_code 0 (.iload_n 1) 1 1 := by decide +kernel
theorem d_M_when_1 : dI prog_8_method_42_code 1 (.invokestatic 108) 3 4 := by decide +kernel
theorem d_M_when_4 : dJ prog_8_method_42_code 4 (.ifCond .ne 9) 9 7 13 := by decide +kernel
theorem d_M_when_7 : dI prog_8_method_42_code 7 (.aload_n 0) 1 8 := by decide +kernel
theorem d_M_when_8 : dI prog_8_method_42_code 8 (.iconst 0) 1 9 ∧ Int32.ofInt 0 = 0 := by decide +kernel
theorem d_M_when_9 : dI prog_8_method_42_code 9 (.invokevirtual 61) 3 12 := by decide +kernel
theorem d_M_when_12 : decode prog_8_method_42_code 12 = .ok (.ireturn, 1) := by decide +kernel
theorem d_M_when_13 : dI prog_8_method_42_code 13 (.aload_n 0) 1 14 := by decide +kernel
theorem d_M_when_14 : dI prog_8_method_42_code 14 (.getfield 7) 3 17 := by decide +kernel
theorem d_M_when_17 : dI prog_8_method_42_code 17 (.bipush 52) 2 19 ∧ (Int8.ofInt 52).toInt32 = 52 := by decide +kernel
theorem d_M_when_19 : dI prog_8_method_42_code 19 (.iload_n 1) 1 20 := by decide +kernel
theorem d_M_when_20 : dI prog_8_method_42_code 20 .iadd 1 21 := by decide +kernel
theorem d_M_when_21 : dI prog_8_method_42_code 21 .iaload 1 22 := by decide +kernel
theorem d_M_when_22 : dI prog_8_method_42_code 22 (.istore_n 2) 1 23 := by decide +kernel
theorem d_M_when_23 : dI prog_8_method_42_code 23 (.iconst (-1)) 1 24 ∧ Int32.ofInt (-1) = (-1) := by decide +kernel
theorem d_M_when_24 : dI prog_8_method_42_code 24 (.istore_n 3) 1 25 := by decide +kernel
theorem d_M_when_25 : dI prog_8_method_42_code 25 (.iconst 0) 1 26 ∧ Int32.ofInt 0 = 0 := by decide +kernel
theorem d_M_when_26 : dI prog_8_method_42_code 26 (.istore 4) 2 28 := by decide +kernel
theorem d_M_when_28 : dI prog_8_method_42_code 28 (.iconst 0) 1 29 ∧ Int32.ofInt 0 = 0 := by decide +kernel
theorem d_M_when_29 : dI prog_8_method_42_code 29 (.istore 5) 2 31 := by decide +kernel
theorem d_M_when_31 : dI prog_8_method_42_code 31 (.iload 5) 2 33 := by decide +kernel
theorem d_M_when_33 : dI prog_8_method_42_code 33 (.bipush 24) 2 35 ∧ (Int8.ofInt 24).toInt32 = 24 := by decide +kernel
theorem d_M_when_35 : dJ prog_8_method_42_code 35 (.if_icmp .ge 112) 112 38 147 := by decide +kernel
theorem d_M_when_38 : dI prog_8_method_42_code 38 (.iload_n 2) 1 39 := by decide +kernel
theorem d_M_when_39 : dI prog_8_method_42_code 39 (.iconst (-1)) 1 40 ∧ Int32.ofInt (-1) = (-1) := by decide +kernel
theorem d_M_when_40 : dJ prog_8_method_42_code 40 (.if_icmp .eq 107) 107 43 147 := by decide +kernel
theorem d_M_when_43 : dI prog_8_method_42_code 43 (.aload_n 0) 1 44 := by decide +kernel
theorem d_M_when_44 : dI prog_8_method_42_code 44 (.invokevirtual 124) 3 47 := by decide +kernel
theorem d_M_when_47 : dI prog_8_method_42_code 47 (.aload_n 0) 1 48 := by decide +kernel
theorem d_M_when_48 : dI prog_8_method_42_code 48 (.getfield 7) 3 51 := by decide +kernel
theorem d_M_when_51 : dI prog_8_method_42_code 51 (.bipush 7) 2 53 ∧ (Int8.ofInt 7).toInt32 = 7 := by decide +kernel
theorem d_M_when_53 : dI prog_8_method_42_code 53 (.iload 5) 2 55 := by decide +kernel
theorem d_M_when_55 : dJ prog_8_method_42_code 55 (.ifCond .ne 13) 13 58 68 := by decide +kernel
theorem d_M_when_58 : dI prog_8_method_42_code 58 (.aload_n 0) 1 59 := by decide +kernel
theorem d_M_when_59 : dI prog_8_method_42_code 59 (.getfield 7) 3 62 := by decide +kernel
theorem d_M_when_62 : dI prog_8_method_42_code 62 (.bipush 7) 2 64 ∧ (Int8.ofInt 7).toInt32 = 7 := by decide +kernel
theorem d_M_when_64 : dI prog_8_method_42_code 64 .iaload 1 65 := by decide +kernel
theorem d_M_when_65 : dJ prog_8_method_42_code 65 (.goto 19) 19 68 84 := by decide +kernel
theorem d_M_when_68 : dI prog_8_method_42_code 68 (.aload_n 0) 1 69 := by decide +kernel
theorem d_M_when_69 : dI prog_8_method_42_code 69 (.getfield 7) 3 72 := by decide +kernel
theorem d_M_when_72 : dI prog_8_method_42_code 72 (.bipush 7) 2 74 ∧ (Int8.ofInt 7).toInt32 = 7 := by decide +kernel
theorem d_M_when_74 : dI prog_8_method_42_code 74 .iaload 1 75 := by decide +kernel
theorem d_M_when_75 : dI prog_8_method_42_code 75 (.bipush 60) 2 77 ∧ (Int8.ofInt 60).toInt32 = 60 := by decide +kernel
theorem d_M_when_77 : dI prog_8_method_42_code 77 .idiv 1 78 := by decide +kernel
theorem d_M_when_78 : dI prog_8_method_42_code 78 (.iload 5) 2 80 := by decide +kernel
theorem d_M_when_80 : dI prog_8_method_42_code 80 .iadd 1 81 := by decide +kernel
theorem d_M_when_81 : dI prog_8_method_42_code 81 (.bipush 60) 2 83 ∧ (Int8.ofInt 60).toInt32 = 60 := by decide +kernel
theorem d_M_when_83 : dI prog_8_method_42_code 83 .imul 1 84 := by decide +kernel
theorem d_M_when_84 : dI prog_8_method_42_code 84 .iastore 1 85 := by decide +kernel
theorem d_M_when_85 : dI prog_8_method_42_code 85 (.aload_n 0) 1 86 := by decide +kernel
theorem d_M_when_86 : dI prog_8_method_42_code 86 (.iload_n 2) 1 87 := by decide +kernel
theorem d_M_when_87 : dI prog_8_method_42_code 87 (.invokevirtual 114) 3 90 := by decide +kernel
theorem d_M_when_90 : dJ prog_8_method_42_code 90 (.ifCond .eq 47) 47 93 137 := by decide +kernel
theorem d_M_when_93 : dI prog_8_method_42_code 93 (.aload_n 0) 1 94 := by decide +kernel
theorem d_M_when_94 : dI prog_8_method_42_code 94 (.invokevirtual 53) 3 97 := by decide +kernel
theorem d_M_when_97 : dI prog_8_method_42_code 97 (.istore 6) 2 99 := by decide +kernel
theorem d_M_when_99 : dI prog_8_method_42_code 99 (.aload_n 0) 1 100 := by decide +kernel
theorem d_M_when_100 : dI prog_8_method_42_code 100 (.iload_n 2) 1 101 := by decide +kernel
theorem d_M_when_101 : dI prog_8_method_42_code 101 (.invokevirtual 117) 3 104 := by decide +kernel
theorem d_M_when_104 : dI prog_8_method_42_code 104 (.aload_n 0) 1 105 := by decide +kernel
theorem d_M_when_105 : dI prog_8_method_42_code 105 (.getfield 7) 3 108 := by decide +kernel
theorem d_M_when_108 : dI prog_8_method_42_code 108 (.iconst 0) 1 109 ∧ Int32.ofInt 0 = 0 := by decide +kernel
theorem d_M_when_109 : dI prog_8_method_42_code 109 .iaload 1 110 := by decide +kernel
theorem d_M_when_110 : dI prog_8_method_42_code 110 (.aload_n 0) 1 111 := by decide +kernel
theorem d_M_when_111 : dI prog_8_method_42_code 111 (.getfield 16) 3 114 := by decide +kernel
theorem d_M_when_114 : dI prog_8_method_42_code 114 (.iconst 0) 1 115 ∧ Int32.ofInt 0 = 0 := by decide +kernel
theorem d_M_when_115 : dI prog_8_method_42_code 115 .iaload 1 116 := by decide +kernel
theorem d_M_when_116 : dI prog_8_method_42_code 116 .isub 1 117 := by decide +kernel
theorem d_M_when_117 : dI prog_8_method_42_code 117 (.istore 7) 2 119 := by decide +kernel
theorem d_M_when_119 : dI prog_8_method_42_code 119 (.iload_n 3) 1 120 := by decide +kernel
theorem d_M_when_120 : dJ prog_8_method_42_code 120 (.ifCond .lt 10) 10 123 130 := by decide +kernel
theorem d_M_when_123 : dI prog_8_method_42_code 123 (.iload 7) 2 125 := by decide +kernel
theorem d_M_when_125 : dI prog_8_method_42_code 125 (.iload 4) 2 127 := by decide +kernel
theorem d_M_when_127 : dJ prog_8_method_42_code 127 (.if_icmp .le 10) 10 130 137 := by decide +kernel
theorem d_M_when_130 : dI prog_8_method_42_code 130 (.iload 6) 2 132 := by decide +kernel
theorem d_M_when_132 : dI prog_8_method_42_code 132 (.istore_n 3) 1 133 := by decide +kernel
theorem d_M_when_133 : dI prog_8_method_42_code 133 (.iload 7) 2 135 := by decide +kernel
theorem d_M_when_135 : dI prog_8_method_42_code 135 (.istore 4) 2 137 := by decide +kernel
theorem d_M_when_137 : dI prog_8_method_42_code 137 (.aload_n 0) 1 138 := by decide +kernel
theorem d_M_when_138 : dI prog_8_method_42_code 138 (.invokevirtual 121) 3 141 := by decide +kernel
theorem d_M_when_141 : dI prog_8_method_42_code 141 (.iinc 5 1) 3 144 ∧ Int32.ofInt 1 = 1 := by decide +kernel
theorem d_M_when_144 : dJ prog_8_method_42_code 144 (.goto (-113)) (-113) 147 31 := by decide +kernel
theorem d_M_when_147 : dI prog_8_method_42_code 147 (.iload_n 3) 1 148 := by decide +kernel
theorem d_M_when_148 : dJ prog_8_method_42_code 148 (.ifCond .ge 11) 11 151 159 := by decide +kernel
theorem d_M_when_151 : dI prog_8_method_42_code 151 (.aload_n 0) 1 152 := by decide +kernel
theorem d_M_when_152 : dI prog_8_method_42_code 152 (.iconst 3) 1 153 ∧ Int32.ofInt 3 = 3 := by decide +kernel
theorem d_M_when_153 : dI prog_8_method_42_code 153 (.invokevirtual 61) 3 156 := by decide +kernel
theorem d_M_when_156 : dJ prog_8_method_42_code 156 (.goto 4) 4 159 160 := by decide +kernel
theorem d_M_when_159 : dI prog_8_method_42_code 159 (.iload_n 3) 1 160 := by decide +kernel
theorem d_M_when_160 : decode prog_8_method_42_code 160 = .ok (.ireturn, 1) := by decide +kernel
theorem d_M_feed_0 : dI prog_8_method_43_code 0 (.iload_n 2) 1 1 := by decide +kernel
theorem d_M_feed_1 : dI prog_8_method_43_code 1 (.iconst 1) 1 2 ∧ Int32.ofInt 1 = 1 := by decide +kernel
theorem d_M_feed_2 : dI prog_8_method_43_code 2 (.iconst 4) 1 3 ∧ Int32.ofInt 4 = 4 := by decide +kernel
theorem d_M_feed_3 : dI prog_8_method_43_code 3 (.invokestatic 45) 3 6 := by decide +kernel
theorem d_M_feed_6 : dJ prog_8_method_43_code 6 (.ifCond .ne 9) 9 9 15 := by decide +kernel
theorem d_M_feed_9 : dI prog_8_method_43_code 9 (.aload_n 0) 1 10 := by decide +kernel
theorem d_M_feed_10 : dI prog_8_method_43_code 10 (.iconst 0) 1 11 ∧ Int32.ofInt 0 = 0 := by decide +kernel
theorem d_M_feed_11 : dI prog_8_method_43_code 11 (.invokevirtual 61) 3 14 := by decide +kernel
theorem d_M_feed_14 : decode prog_8_method_43_code 14 = .ok (.ireturn, 1) := by decide +kernel
theorem d_M_feed_15 : dI prog_8_method_43_code 15 (.aload_n 0) 1 16 := by decide +kernel
theorem d_M_feed_16 : dI prog_8_method_43_code 16 (.getfield 136) 3 19 := by decide +kernel
theorem d_M_feed_19 : dI prog_8_method_43_code 19 (.iload_n 2) 1 20 := by decide +kernel
theorem d_M_feed_20 : dI prog_8_method_43_code 20 .iadd 1 21 := by decide +kernel
theorem d_M_feed_21 : dI prog_8_method_43_code 21 (.bipush 120) 2 23 ∧ (Int8.ofInt 120).toInt32 = 120 := by decide +kernel
theorem d_M_feed_23 : dJ prog_8_method_43_code 23 (.if_icmp .le 9) 9 26 32 := by decide +kernel
theorem d_M_feed_26 : dI prog_8_method_43_code 26 (.aload_n 0) 1 27 := by decide +kernel
theorem d_M_feed_27 : dI prog_8_method_43_code 27 (.iconst 1) 1 28 ∧ Int32.ofInt 1 = 1 := by decide +kernel
theorem d_M_feed_28 : dI prog_8_method_43_code 28 (.invokevirtual 61) 3 31 := by decide +kernel
theorem d_M_feed_31 : decode prog_8_method_43_code 31 = .ok (.ireturn, 1) := by decide +kernel
theorem d_M_feed_32 : dI prog_8_method_43_code 32 (.iload_n 2) 1 33 := by decide +kernel
theorem d_M_feed_33 : dI prog_8_method_43_code 33 (.iconst 1) 1 34 ∧ Int32.ofInt 1 = 1 := by decide +kernel
theorem d_M_feed_34 : dI prog_8_method_43_code 34 .isub 1 35 := by decide +kernel
theorem d_M_feed_35 : dI prog_8_method_43_code 35 (.istore_n 3) 1 36 := by decide +kernel
theorem d_M_feed_36 : dI prog_8_method_43_code 36 (.iload_n 3) 1 37 := by decide +kernel
theorem d_M_feed_37 : dJ prog_8_method_43_code 37 (.ifCond .lt 38) 38 40 75 := by decide +kernel
theorem d_M_feed_40 : dI prog_8_method_43_code 40 (.aload_n 0) 1 41 := by decide +kernel
theorem d_M_feed_41 : dI prog_8_method_43_code 41 (.getfield 22) 3 44 := by decide +kernel
theorem d_M_feed_44 : dI prog_8_method_43_code 44 (.aload_n 0) 1 45 := by decide +kernel
theorem d_M_feed_45 : dI prog_8_method_43_code 45 (.getfield 136) 3 48 := by decide +kernel
theorem d_M_feed_48 : dI prog_8_method_43_code 48 (.iload_n 1) 1 49 := by decide +kernel
theorem d_M_feed_49 : dI prog_8_method_43_code 49 (.bipush 8) 2 51 ∧ (Int8.ofInt 8).toInt32 = 8 := by decide +kernel
theorem d_M_feed_51 : dI prog_8_method_43_code 51 (.iload_n 3) 1 52 := by decide +kernel
theorem d_M_feed_52 : dI prog_8_method_43_code 52 .imul 1 53 := by decide +kernel
theorem d_M_feed_53 : dI prog_8_method_43_code 53 .ishr 1 54 := by decide +kernel
theorem d_M_feed_54 : dI prog_8_method_43_code 54 (.sipush 255) 3 57 ∧ (Int16.ofInt 255).toInt32 = 255 := by decide +kernel
theorem d_M_feed_57 : dI prog_8_method_43_code 57 .iand 1 58 := by decide +kernel
theorem d_M_feed_58 : dI prog_8_method_43_code 58 .iastore 1 59 := by decide +kernel
theorem d_M_feed_59 : dI prog_8_method_43_code 59 (.aload_n 0) 1 60 := by decide +kernel
theorem d_M_feed_60 : dI prog_8_method_43_code 60 .dup 1 61 := by decide +kernel
theorem d_M_feed_61 : dI prog_8_method_43_code 61 (.getfield 136) 3 64 := by decide +kernel
theorem d_M_feed_64 : dI prog_8_method_43_code 64 (.iconst 1) 1 65 ∧ Int32.ofInt 1 = 1 := by decide +kernel
theorem d_M_feed_65 : dI prog_8_method_43_code 65 .iadd 1 66 := by decide +kernel
theorem d_M_feed_66 : dI prog_8_method_43_code 66 (.putfield 136) 3 69 := by decide +kernel
theorem d_M_feed_69 : dI prog_8_method_43_code 69 (.iinc 3 (-1)) 3 72 ∧ Int32.ofInt (-1) = (-1) := by decide +kernel
theorem d_M_feed_72 : dJ prog_8_method_43_code 72 (.goto (-36)) (-36) 75 36 := by decide +kernel
theorem d_M_feed_75 : dI prog_8_method_43_code 75 (.aload_n 0) 1 76 := by decide +kernel
theorem d_M_feed_76 : dI prog_8_method_43_code 76 (.getfield 136) 3 79 := by decide +kernel
theorem d_M_feed_79 : decode prog_8_method_43_code 79 = .ok (.ireturn, 1) := by decide +kernel
theorem d_M_wipe_0 : dI prog_8_method_44_code 0 (.aload_n 0) 1 1 := by decide +kernel
theorem d_M_wipe_1 : dI prog_8_method_44_code 1 (.getfield 136) 3 4 := by decide +kernel
theorem d_M_wipe_4 : dI prog_8_method_44_code 4 (.istore_n 1) 1 5 := by decide +kernel
theorem d_M_wipe_5 : dI prog_8_method_44_code 5 (.aload_n 0) 1 6 := by decide +kernel
theorem d_M_wipe_6 : dI prog_8_method_44_code 6 (.iconst 0) 1 7 ∧ Int32.ofInt 0 = 0 := by decide +kernel
theorem d_M_wipe_7 : dI prog_8_method_44_code 7 (.putfield 136) 3 10 := by decide +kernel
theorem d_M_wipe_10 : dI prog_8_method_44_code 10 (.iload_n 1) 1 11 := by decide +kernel
theorem d_M_wipe_11 : decode prog_8_method_44_code 11 = .ok (.ireturn, 1) := by decide +kernel
theorem d_M_byteAt_0 : dI prog_8_method_45_code 0 (.iload_n 1) 1 1 := by decide +kernel
theorem d_M_byteAt_1 : dI prog_8_method_45_code 1 (.aload_n 0) 1 2 := by decide +kernel
theorem d_M_byteAt_2 : dI prog_8_method_45_code 2 (.getfield 136) 3 5 := by decide +kernel
theorem d_M_byteAt_5 : dJ prog_8_method_45_code 5 (.if_icmp .ge 12) 12 8 17 := by decide +kernel
theorem d_M_byteAt_8 : dI prog_8_method_45_code 8 (.aload_n 0) 1 9 := by decide +kernel
theorem d_M_byteAt_9 : dI prog_8_method_45_code 9 (.getfield 22) 3 12 := by decide +kernel
theorem d_M_byteAt_12 : dI prog_8_method_45_code 12 (.iload_n 1) 1 13 := by decide +kernel
theorem d_M_byteAt_13 : dI prog_8_method_45_code 13 .iaload 1 14 := by decide +kernel
theorem d_M_byteAt_14 : dJ prog_8_method_45_code 14 (.goto 4) 4 17 18 := by decide +kernel
theorem d_M_byteAt_17 : dI prog_8_method_45_code 17 (.iconst (-1)) 1 18 ∧ Int32.ofInt (-1) = (-1) := by decide +kernel
theorem d_M_byteAt_18 : decode prog_8_method_45_code 18 = .ok (.ireturn, 1) := by decide +kernel
theorem d_M_next_0 : dI prog_8_method_46_code 0 (.aload_n 0) 1 1 := by decide +kernel
theorem d_M_next_1 : dI prog_8_method_46_code 1 (.aload_n 0) 1 2 := by decide +kernel
theorem d_M_next_2 : dI prog_8_method_46_code 2 (.getfield 140) 3 5 := by decide +kernel
theorem d_M_next_5 : dI prog_8_method_46_code 5 (.invokevirtual 143) 3 8 := by decide +kernel
theorem d_M_next_8 : dI prog_8_method_46_code 8 (.bipush 32) 2 10 ∧ (Int8.ofInt 32).toInt32 = 32 := by decide +kernel
theorem d_M_next_10 : dJ prog_8_method_46_code 10 (.if_icmp .ne 16) 16 13 26 := by decide +kernel
theorem d_M_next_13 : dI prog_8_method_46_code 13 (.aload_n 0) 1 14 := by decide +kernel
theorem d_M_next_14 : dI prog_8_method_46_code 14 .dup 1 15 := by decide +kernel
theorem d_M_next_15 : dI prog_8_method_46_code 15 (.getfield 140) 3 18 := by decide +kernel
theorem d_M_next_18 : dI prog_8_method_46_code 18 (.iconst 1) 1 19 ∧ Int32.ofInt 1 = 1 := by decide +kernel
theorem d_M_next_19 : dI prog_8_method_46_code 19 .iadd 1 20 := by decide +kernel
theorem d_M_next_20 : dI prog_8_method_46_code 20 (.putfield 140) 3 23 := by decide +kernel
theorem d_M_next_23 : dJ prog_8_method_46_code 23 (.goto (-23)) (-23) 26 0 := by decide +kernel
theorem d_M_next_26 : dI prog_8_method_46_code 26 (.aload_n 0) 1 27 := by decide +kernel
theorem d_M_next_27 : dI prog_8_method_46_code 27 (.aload_n 0) 1 28 := by decide +kernel
theorem d_M_next_28 : dI prog_8_method_46_code 28 (.getfield 140) 3 31 := by decide +kernel
theorem d_M_next_31 : dI prog_8_method_46_code 31 (.putfield 146) 3 34 := by decide +kernel
theorem d_M_next_34 : dI prog_8_method_46_code 34 (.aload_n 0) 1 35 := by decide +kernel
theorem d_M_next_35 : dI prog_8_method_46_code 35 (.aload_n 0) 1 36 := by decide +kernel
theorem d_M_next_36 : dI prog_8_method_46_code 36 (.getfield 140) 3 39 := by decide +kernel
theorem d_M_next_39 : dI prog_8_method_46_code 39 (.invokevirtual 143) 3 42 := by decide +kernel
theorem d_M_next_42 : dI prog_8_method_46_code 42 (.istore_n 1) 1 43 := by decide +kernel
theorem d_M_next_43 : dI prog_8_method_46_code 43 (.iload_n 1) 1 44 := by decide +kernel
theorem d_M_next_44 : dJ prog_8_method_46_code 44 (.ifCond .ge 11) 11 47 55 := by decide +kernel
theorem d_M_next_47 : dI prog_8_method_46_code 47 (.aload_n 0) 1 48 := by decide +kernel
theorem d_M_next_48 : dI prog_8_method_46_code 48 (.iconst 0) 1 49 ∧ Int32.ofInt 0 = 0 := by decide +kernel
theorem d_M_next_49 : dI prog_8_method_46_code 49 (.putfield 149) 3 52 := by decide +kernel
theorem d_M_next_52 : dJ prog_8_method_46_code 52 (.goto 167) 167 55 219 := by decide +kernel
theorem d_M_next_55 : dI prog_8_method_46_code 55 (.iload_n 1) 1 56 := by decide +kernel
theorem d_M_next_56 : dI prog_8_method_46_code 56 (.bipush 97) 2 58 ∧ (Int8.ofInt 97).toInt32 = 97 := by decide +kernel
theorem d_M_next_58 : dI prog_8_method_46_code 58 (.bipush 122) 2 60 ∧ (Int8.ofInt 122).toInt32 = 122 := by decide +kernel
theorem d_M_next_60 : dI prog_8_method_46_code 60 (.invokestatic 45) 3 63 := by decide +kernel
theorem d_M_next_63 : dJ prog_8_method_46_code 63 (.ifCond .eq 39) 39 66 102 := by decide +kernel
theorem d_M_next_66 : dI prog_8_method_46_code 66 (.aload_n 0) 1 67 := by decide +kernel
theorem d_M_next_67 : dI prog_8_method_46_code 67 (.iconst 1) 1 68 ∧ Int32.ofInt 1 = 1 := by decide +kernel
theorem d_M_next_68 : dI prog_8_method_46_code 68 (.putfield 149) 3 71 := by decide +kernel
theorem d_M_next_71 : dI prog_8_method_46_code 71 (.aload_n 0) 1 72 := by decide +kernel
theorem d_M_next_72 : dI prog_8_method_46_code 72 (.aload_n 0) 1 73 := by decide +kernel
theorem d_M_next_73 : dI prog_8_method_46_code 73 (.getfield 140) 3 76 := by decide +kernel
theorem d_M_next_76 : dI prog_8_method_46_code 76 (.invokevirtual 143) 3 79 := by decide +kernel
theorem d_M_next_79 : dI prog_8_method_46_code 79 (.bipush 97) 2 81 ∧ (Int8.ofInt 97).toInt32 = 97 := by decide +kernel
theorem d_M_next_81 : dI prog_8_method_46_code 81 (.bipush 122) 2 83 ∧ (Int8.ofInt 122).toInt32 = 122 := by decide +kernel
theorem d_M_next_83 : dI prog_8_method_46_code 83 (.invokestatic 45) 3 86 := by decide +kernel
theorem d_M_next_86 : dJ prog_8_method_46_code 86 (.ifCond .eq 133) 133 89 219 := by decide +kernel
theorem d_M_next_89 : dI prog_8_method_46_code 89 (.aload_n 0) 1 90 := by decide +kernel
theorem d_M_next_90 : dI prog_8_method_46_code 90 .dup 1 91 := by decide +kernel
theorem d_M_next_91 : dI prog_8_method_46_code 91 (.getfield 140) 3 94 := by decide +kernel
theorem d_M_next_94 : dI prog_8_method_46_code 94 (.iconst 1) 1 95 ∧ Int32.ofInt 1 = 1 := by decide +kernel
theorem d_M_next_95 : dI prog_8_method_46_code 95 .iadd 1 96 := by decide +kernel
theorem d_M_next_96 : dI prog_8_method_46_code 96 (.putfield 140) 3 99 := by decide +kernel
theorem d_M_next_99 : dJ prog_8_method_46_code 99 (.goto (-28)) (-28) 102 71 := by decide +kernel
theorem d_M_next_102 : dI prog_8_method_46_code 102 (.iload_n 1) 1 103 := by decide +kernel
theorem d_M_next_103 : dI prog_8_method_46_code 103 (.bipush 48) 2 105 ∧ (Int8.ofInt 48).toInt32 = 48 := by decide +kernel
theorem d_M_next_105 : dI prog_8_method_46_code 105 (.bipush 57) 2 107 ∧ (Int8.ofInt 57).toInt32 = 57 := by decide +kernel
theorem d_M_next_107 : dI prog_8_method_46_code 107 (.invokestatic 45) 3 110 := by decide +kernel
theorem d_M_next_110 : dJ prog_8_method_46_code 110 (.ifCond .eq 84) 84 113 194 := by decide +kernel
theorem d_M_next_113 : dI prog_8_method_46_code 113 (.aload_n 0) 1 114 := by decide +kernel
theorem d_M_next_114 : dI prog_8_method_46_code 114 (.iconst 2) 1 115 ∧ Int32.ofInt 2 = 2 := by decide +kernel
theorem d_M_next_115 : dI prog_8_method_46_code 115 (.putfield 149) 3 118 := by decide +kernel
theorem d_M_next_118 : dI prog_8_method_46_code 118 (.aload_n 0) 1 119 := by decide +kernel
theorem d_M_next_119 : dI prog_8_method_46_code 119 (.iconst 0) 1 120 ∧ Int32.ofInt 0 = 0 := by decide +kernel
theorem d_M_next_120 : dI prog_8_method_46_code 120 (.putfield 152) 3 123 := by decide +kernel
theorem d_M_next_123 : dI prog_8_method_46_code 123 (.aload_n 0) 1 124 := by decide +kernel
theorem d_M_next_124 : dI prog_8_method_46_code 124 (.aload_n 0) 1 125 := by decide +kernel
theorem d_M_next_125 : dI prog_8_method_46_code 125 (.getfield 140) 3 128 := by decide +kernel
theorem d_M_next_128 : dI prog_8_method_46_code 128 (.invokevirtual 143) 3 131 := by decide +kernel
theorem d_M_next_131 : dI prog_8_method_46_code 131 (.bipush 48) 2 133 ∧ (Int8.ofInt 48).toInt32 = 48 := by decide +kernel
theorem d_M_next_133 : dI prog_8_method_46_code 133 (.bipush 57) 2 135 ∧ (Int8.ofInt 57).toInt32 = 57 := by decide +kernel
theorem d_M_next_135 : dI prog_8_method_46_code 135 (.invokestatic 45) 3 138 := by decide +kernel
theorem d_M_next_138 : dJ prog_8_method_46_code 138 (.ifCond .eq 81) 81 141 219 := by decide +kernel
theorem d_M_next_141 : dI prog_8_method_46_code 141 (.aload_n 0) 1 142 := by decide +kernel
theorem d_M_next_142 : dI prog_8_method_46_code 142 (.aload_n 0) 1 143 := by decide +kernel
theorem d_M_next_143 : dI prog_8_method_46_code 143 (.getfield 152) 3 146 := by decide +kernel
theorem d_M_next_146 : dI prog_8_method_46_code 146 (.sipush 9999) 3 149 ∧ (Int16.ofInt 9999).toInt32 = 9999 := by decide +kernel
theorem d_M_next_149 : dJ prog_8_method_46_code 149 (.if_icmp .le 10) 10 152 159 := by decide +kernel
theorem d_M_next_152 : dI prog_8_method_46_code 152 (.aload_n 0) 1 153 := by decide +kernel
theorem d_M_next_153 : dI prog_8_method_46_code 153 (.getfield 152) 3 156 := by decide +kernel
theorem d_M_next_156 : dJ prog_8_method_46_code 156 (.goto 22) 22 159 178 := by decide +kernel
theorem d_M_next_159 : dI prog_8_method_46_code 159 (.bipush 10) 2 161 ∧ (Int8.ofInt 10).toInt32 = 10 := by decide +kernel
theorem d_M_next_161 : dI prog_8_method_46_code 161 (.aload_n 0) 1 162 := by decide +kernel
theorem d_M_next_162 : dI prog_8_method_46_code 162 (.getfield 152) 3 165 := by decide +kernel
theorem d_M_next_165 : dI prog_8_method_46_code 165 .imul 1 166 := by decide +kernel
theorem d_M_next_166 : dI prog_8_method_46_code 166 (.aload_n 0) 1 167 := by decide +kernel
theorem d_M_next_167 : dI prog_8_method_46_code 167 (.aload_n 0) 1 168 := by decide +kernel
theorem d_M_next_168 : dI prog_8_method_46_code 168 (.getfield 140) 3 171 := by decide +kernel
theorem d_M_next_171 : dI prog_8_method_46_code 171 (.invokevirtual 143) 3 174 := by decide +kernel
theorem d_M_next_174 : dI prog_8_method_46_code 174 .iadd 1 175 := by decide +kernel
theorem d_M_next_175 : dI prog_8_method_46_code 175 (.bipush 48) 2 177 ∧ (Int8.ofInt 48).toInt32 = 48 := by decide +kernel
theorem d_M_next_177 : dI prog_8_method_46_code 177 .isub 1 178 := by decide +kernel
theorem d_M_next_178 : dI prog_8_method_46_code 178 (.putfield 152) 3 181 := by decide +kernel
theorem d_M_next_181 : dI prog_8_method_46_code 181 (.aload_n 0) 1 182 := by decide +kernel
theorem d_M_next_182 : dI prog_8_method_46_code 182 .dup 1 183 := by decide +kernel
theorem d_M_next_183 : dI prog_8_method_46_code 183 (.getfield 140) 3 186 := by decide +kernel
theorem d_M_next_186 : dI prog_8_method_46_code 186 (.iconst 1) 1 187 ∧ Int32.ofInt 1 = 1 := by decide +kernel
theorem d_M_next_187 : dI prog_8_method_46_code 187 .iadd 1 188 := by decide +kernel
theorem d_M_next_188 : dI prog_8_method_46_code 188 (.putfield 140) 3 191 := by decide +kernel
theorem d_M_next_191 : dJ prog_8_method_46_code 191 (.goto (-68)) (-68) 194 123 := by decide +kernel
theorem d_M_next_194 : dI prog_8_method_46_code 194 (.aload_n 0) 1 195 := by decide +kernel
theorem d_M_next_195 : dI prog_8_method_46_code 195 (.iload_n 1) 1 196 := by decide +kernel
theorem d_M_next_196 : dI prog_8_method_46_code 196 (.bipush 59) 2 198 ∧ (Int8.ofInt 59).toInt32 = 59 := by decide +kernel
theorem d_M_next_198 : dJ prog_8_method_46_code 198 (.if_icmp .ne 7) 7 201 205 := by decide +kernel
theorem d_M_next_201 : dI prog_8_method_46_code 201 (.iconst 3) 1 202 ∧ Int32.ofInt 3 = 3 := by decide +kernel
theorem d_M_next_202 : dJ prog_8_method_46_code 202 (.goto 4) 4 205 206 := by decide +kernel
theorem d_M_next_205 : dI prog_8_method_46_code 205 (.iconst 4) 1 206 ∧ Int32.ofInt 4 = 4 := by decide +kernel
theorem d_M_next_206 : dI prog_8_method_46_code 206 (.putfield 149) 3 209 := by decide +kernel
theorem d_M_next_209 : dI prog_8_method_46_code 209 (.aload_n 0) 1 210 := by decide +kernel
theorem d_M_next_210 : dI prog_8_method_46_code 210 .dup 1 211 := by decide +kernel
theorem d_M_next_211 : dI prog_8_method_46_code 211 (.getfield 140) 3 214 := by decide +kernel
theorem d_M_next_214 : dI prog_8_method_46_code 214 (.iconst 1) 1 215 ∧ Int32.ofInt 1 = 1 := by decide +kernel
theorem d_M_next_215 : dI prog_8_method_46_code 215 .iadd 1 216 := by decide +kernel
theorem d_M_next_216 : dI prog_8_method_46_code 216 (.putfield 140) 3 219 := by decide +kernel
theorem d_M_next_219 : decode prog_8_method_46_code 219 = .ok (.return_, 1) := by decide +kernel
theorem d_M_isWord_0 : dI prog_8_method_47_code 0 (.aload_n 0) 1 1 := by decide +kernel
theorem d_M_isWord_1 : dI prog_8_method_47_code 1 (.getfield 149) 3 4 := by decide +kernel
theorem d_M_isWord_4 : dI prog_8_method_47_code 4 (.iconst 1) 1 5 ∧ Int32.ofInt 1 = 1 := by decide +kernel
theorem d_M_isWord_5 : dJ prog_8_method_47_code 5 (.if_icmp .ne 23) 23 8 28 := by decide +kernel
theorem d_M_isWord_8 : dI prog_8_method_47_code 8 (.aload_n 0) 1 9 := by decide +kernel
theorem d_M_isWord_9 : dI prog_8_method_47_code 9 (.getfield 140) 3 12 := by decide +kernel
theorem d_M_isWord_12 : dI prog_8_method_47_code 12 (.aload_n 0) 1 13 := by decide +kernel
theorem d_M_isWord_13 : dI prog_8_method_47_code 13 (.getfield 146) 3 16 := by decide +kernel
theorem d_M_isWord_16 : dI prog_8_method_47_code 16 .isub 1 17 := by decide +kernel
theorem d_M_isWord_17 : dI prog_8_method_47_code 17 (.aload_n 1) 1 18 := by decide +kernel
theorem d_M_isWord_18 : dI prog_8_method_47_code 18 (.invokevirtual 155) 3 21 := by decide +kernel
theorem d_M_isWord_21 : dJ prog_8_method_47_code 21 (.if_icmp .ne 7) 7 24 28 := by decide +kernel
theorem d_M_isWord_24 : dI prog_8_method_47_code 24 (.iconst 1) 1 25 ∧ Int32.ofInt 1 = 1 := by decide +kernel
theorem d_M_isWord_25 : dJ prog_8_method_47_code 25 (.goto 4) 4 28 29 := by decide +kernel
theorem d_M_isWord_28 : dI prog_8_method_47_code 28 (.iconst 0) 1 29 ∧ Int32.ofInt 0 = 0 := by decide +kernel
theorem d_M_isWord_29 : dI prog_8_method_47_code 29 (.istore_n 2) 1 30 := by decide +kernel
theorem d_M_isWord_30 : dI prog_8_method_47_code 30 (.iconst 0) 1 31 ∧ Int32.ofInt 0 = 0 := by decide +kernel
theorem d_M_isWord_31 : dI prog_8_method_47_code 31 (.istore_n 3) 1 32 := by decide +kernel
theorem d_M_isWord_32 : dI prog_8_method_47_code 32 (.iload_n 3) 1 33 := by decide +kernel
theorem d_M_isWord_33 : dI prog_8_method_47_code 33 (.aload_n 1) 1 34 := by decide +kernel
theorem d_M_isWord_34 : dI prog_8_method_47_code 34 (.invokevirtual 155) 3 37 := by decide +kernel
theorem d_M_isWord_37 : dJ prog_8_method_47_code 37 (.if_icmp .ge 38) 38 40 75 := by decide +kernel
theorem d_M_isWord_40 : dI prog_8_method_47_code 40 (.iload_n 2) 1 41 := by decide +kernel
theorem d_M_isWord_41 : dJ prog_8_method_47_code 41 (.ifCond .eq 34) 34 44 75 := by decide +kernel
theorem d_M_isWord_44 : dI prog_8_method_47_code 44 (.aload_n 0) 1 45 := by decide +kernel
theorem d_M_isWord_45 : dI prog_8_method_47_code 45 (.getfield 22) 3 48 := by decide +kernel
theorem d_M_isWord_48 : dI prog_8_method_47_code 48 (.aload_n 0) 1 49 := by decide +kernel
theorem d_M_isWord_49 : dI prog_8_method_47_code 49 (.getfield 146) 3 52 := by decide +kernel
theorem d_M_isWord_52 : dI prog_8_method_47_code 52 (.iload_n 3) 1 53 := by decide +kernel
theorem d_M_isWord_53 : dI prog_8_method_47_code 53 .iadd 1 54 := by decide +kernel
theorem d_M_isWord_54 : dI prog_8_method_47_code 54 .iaload 1 55 := by decide +kernel
theorem d_M_isWord_55 : dI prog_8_method_47_code 55 (.aload_n 1) 1 56 := by decide +kernel
