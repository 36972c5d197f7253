theorem d_S_init_0 : dI prog_1_method_1_code 0 (.aload_n 0) 1 1 := by decide +kernel
theorem d_S_init_1 : dI prog_1_method_1_code 1 (.invokespecial 1) 3 4 := by decide +kernel
theorem d_S_init_4 : dI prog_1_method_1_code 4 (.aload_n 0) 1 5 := by decide +kernel
theorem d_S_init_5 : dI prog_1_method_1_code 5 (.new 7) 3 8 := by decide +kernel
theorem d_S_init_8 : dI prog_1_method_1_code 8 .dup 1 9 := by decide +kernel
theorem d_S_init_9 : dI prog_1_method_1_code 9 (.invokespecial 9) 3 12 := by decide +kernel
theorem d_S_init_12 : dI prog_1_method_1_code 12 (.putfield 10) 3 15 := by decide +kernel
theorem d_S_init_15 : dI prog_1_method_1_code 15 (.aload_n 0) 1 16 := by decide +kernel
theorem d_S_init_16 : dI prog_1_method_1_code 16 (.new 7) 3 19 := by decide +kernel
theorem d_S_init_19 : dI prog_1_method_1_code 19 .dup 1 20 := by decide +kernel
theorem d_S_init_20 : dI prog_1_method_1_code 20 (.invokespecial 9) 3 23 := by decide +kernel
theorem d_S_init_23 : dI prog_1_method_1_code 23 (.putfield 16) 3 26 := by decide +kernel
theorem d_S_init_26 : dI prog_1_method_1_code 26 (.aload_n 0) 1 27 := by decide +kernel
theorem d_S_init_27 : dI prog_1_method_1_code 27 (.new 7) 3 30 := by decide +kernel
theorem d_S_init_30 : dI prog_1_method_1_code 30 .dup 1 31 := by decide +kernel
theorem d_S_init_31 : dI prog_1_method_1_code 31 (.invokespecial 9) 3 34 := by decide +kernel
theorem d_S_init_34 : dI prog_1_method_1_code 34 (.putfield 19) 3 37 := by decide +kernel
theorem d_S_init_37 : dI prog_1_method_1_code 37 (.aload_n 0) 1 38 := by decide +kernel
theorem d_S_init_38 : dI prog_1_method_1_code 38 (.aload_n 0) 1 39 := by decide +kernel
theorem d_S_init_39 : dI prog_1_method_1_code 39 (.getfield 10) 3 42 := by decide +kernel
theorem d_S_init_42 : dI prog_1_method_1_code 42 (.getfield 22) 3 45 := by decide +kernel
theorem d_S_init_45 : dI prog_1_method_1_code 45 (.putfield 26) 3 48 := by decide +kernel
theorem d_S_init_48 : dI prog_1_method_1_code 48 (.aload_n 0) 1 49 := by decide +kernel
theorem d_S_init_49 : dI prog_1_method_1_code 49 (.new 27) 3 52 := by decide +kernel
theorem d_S_init_52 : dI prog_1_method_1_code 52 .dup 1 53 := by decide +kernel
theorem d_S_init_53 : dI prog_1_method_1_code 53 (.aload_n 0) 1 54 := by decide +kernel
theorem d_S_init_54 : dI prog_1_method_1_code 54 (.getfield 10) 3 57 := by decide +kernel
theorem d_S_init_57 : dI prog_1_method_1_code 57 (.getfield 29) 3 60 := by decide +kernel
theorem d_S_init_60 : dI prog_1_method_1_code 60 (.invokespecial 33) 3 63 := by decide +kernel
theorem d_S_init_63 : dI prog_1_method_1_code 63 (.putfield 36) 3 66 := by decide +kernel
theorem d_S_init_66 : dI prog_1_method_1_code 66 (.aload_n 0) 1 67 := by decide +kernel
theorem d_S_init_67 : dI prog_1_method_1_code 67 (.new 39) 3 70 := by decide +kernel
theorem d_S_init_70 : dI prog_1_method_1_code 70 .dup 1 71 := by decide +kernel
theorem d_S_init_71 : dI prog_1_method_1_code 71 (.aload_n 0) 1 72 := by decide +kernel
theorem d_S_init_72 : dI prog_1_method_1_code 72 (.getfield 10) 3 75 := by decide +kernel
theorem d_S_init_75 : dI prog_1_method_1_code 75 (.getfield 29) 3 78 := by decide +kernel
theorem d_S_init_78 : dI prog_1_method_1_code 78 (.invokespecial 41) 3 81 := by decide +kernel
theorem d_S_init_81 : dI prog_1_method_1_code 81 (.putfield 42) 3 84 := by decide +kernel
theorem d_S_init_84 : dI prog_1_method_1_code 84 (.aload_n 0) 1 85 := by decide +kernel
theorem d_S_init_85 : dI prog_1_method_1_code 85 (.new 46) 3 88 := by decide +kernel
theorem d_S_init_88 : dI prog_1_method_1_code 88 .dup 1 89 := by decide +kernel
theorem d_S_init_89 : dI prog_1_method_1_code 89 (.invokespecial 48) 3 92 := by decide +kernel
theorem d_S_init_92 : dI prog_1_method_1_code 92 (.putfield 49) 3 95 := by decide +kernel
theorem d_S_init_95 : dI prog_1_method_1_code 95 (.aload_n 0) 1 96 := by decide +kernel
theorem d_S_init_96 : dI prog_1_method_1_code 96 (.iconst 4) 1 97 ∧ Int32.ofInt 4 = 4 := by decide +kernel
theorem d_S_init_97 : dI prog_1_method_1_code 97 (.anewarray 53) 3 100 := by decide +kernel
theorem d_S_init_100 : dI prog_1_method_1_code 100 .dup 1 101 := by decide +kernel
theorem d_S_init_101 : dI prog_1_method_1_code 101 (.iconst 0) 1 102 ∧ Int32.ofInt 0 = 0 := by decide +kernel
theorem d_S_init_102 : dI prog_1_method_1_code 102 (.new 53) 3 105 := by decide +kernel
theorem d_S_init_105 : dI prog_1_method_1_code 105 .dup 1 106 := by decide +kernel
theorem d_S_init_106 : dI prog_1_method_1_code 106 (.invokespecial 55) 3 109 := by decide +kernel
theorem d_S_init_109 : dI prog_1_method_1_code 109 .aastore 1 110 := by decide +kernel
theorem d_S_init_110 : dI prog_1_method_1_code 110 .dup 1 111 := by decide +kernel
theorem d_S_init_111 : dI prog_1_method_1_code 111 (.iconst 1) 1 112 ∧ Int32.ofInt 1 = 1 := by decide +kernel
theorem d_S_init_112 : dI prog_1_method_1_code 112 (.new 53) 3 115 := by decide +kernel
theorem d_S_init_115 : dI prog_1_method_1_code 115 .dup 1 116 := by decide +kernel
theorem d_S_init_116 : dI prog_1_method_1_code 116 (.invokespecial 55) 3 119 := by decide +kernel
theorem d_S_init_119 : dI prog_1_method_1_code 119 .aastore 1 120 := by decide +kernel
theorem d_S_init_120 : dI prog_1_method_1_code 120 .dup 1 121 := by decide +kernel
theorem d_S_init_121 : dI prog_1_method_1_code 121 (.iconst 2) 1 122 ∧ Int32.ofInt 2 = 2 := by decide +kernel
theorem d_S_init_122 : dI prog_1_method_1_code 122 (.new 53) 3 125 := by decide +kernel
theorem d_S_init_125 : dI prog_1_method_1_code 125 .dup 1 126 := by decide +kernel
theorem d_S_init_126 : dI prog_1_method_1_code 126 (.invokespecial 55) 3 129 := by decide +kernel
theorem d_S_init_129 : dI prog_1_method_1_code 129 .aastore 1 130 := by decide +kernel
theorem d_S_init_130 : dI prog_1_method_1_code 130 .dup 1 131 := by decide +kernel
theorem d_S_init_131 : dI prog_1_method_1_code 131 (.iconst 3) 1 132 ∧ Int32.ofInt 3 = 3 := by decide +kernel
theorem d_S_init_132 : dI prog_1_method_1_code 132 (.new 53) 3 135 := by decide +kernel
theorem d_S_init_135 : dI prog_1_method_1_code 135 .dup 1 136 := by decide +kernel
theorem d_S_init_136 : dI prog_1_method_1_code 136 (.invokespecial 55) 3 139 := by decide +kernel
theorem d_S_init_139 : dI prog_1_method_1_code 139 .aastore 1 140 := by decide +kernel
theorem d_S_init_140 : dI prog_1_method_1_code 140 (.putfield 56) 3 143 := by decide +kernel
theorem d_S_init_143 : dI prog_1_method_1_code 143 (.aload_n 0) 1 144 := by decide +kernel
theorem d_S_init_144 : dI prog_1_method_1_code 144 (.bipush 7) 2 146 ∧ (Int8.ofInt 7).toInt32 = 7 := by decide +kernel
theorem d_S_init_146 : dI prog_1_method_1_code 146 (.newarray .int) 2 148 := by decide +kernel
theorem d_S_init_148 : dI prog_1_method_1_code 148 (.putfield 60) 3 151 := by decide +kernel
theorem d_S_init_151 : decode prog_1_method_1_code 151 = .ok (.return_, 1) := by decide +kernel
theorem d_S_sand_0 : dI prog_1_method_2_code 0 (.iload_n 1) 1 1 := by decide +kernel
theorem d_S_sand_1 : dI prog_1_method_2_code 1 (.invokestatic 63) 3 4 := by decide +kernel
theorem d_S_sand_4 : dJ prog_1_method_2_code 4 (.ifCond .eq 13) 13 7 17 := by decide +kernel
theorem d_S_sand_7 : dI prog_1_method_2_code 7 (.iload_n 2) 1 8 := by decide +kernel
theorem d_S_sand_8 : dJ prog_1_method_2_code 8 (.ifCond .lt 9) 9 11 17 := by decide +kernel
theorem d_S_sand_11 : dI prog_1_method_2_code 11 (.iload_n 2) 1 12 := by decide +kernel
theorem d_S_sand_12 : dI prog_1_method_2_code 12 (.bipush 99) 2 14 ∧ (Int8.ofInt 99).toInt32 = 99 := by decide +kernel
theorem d_S_sand_14 : dJ prog_1_method_2_code 14 (.if_icmp .le 9) 9 17 23 := by decide +kernel
theorem d_S_sand_17 : dI prog_1_method_2_code 17 (.aload_n 0) 1 18 := by decide +kernel
theorem d_S_sand_18 : dI prog_1_method_2_code 18 (.iconst 0) 1 19 ∧ Int32.ofInt 0 = 0 := by decide +kernel
theorem d_S_sand_19 : dI prog_1_method_2_code 19 (.invokevirtual 67) 3 22 := by decide +kernel
theorem d_S_sand_22 : decode prog_1_method_2_code 22 = .ok (.ireturn, 1) := by decide +kernel
theorem d_S_sand_23 : dI prog_1_method_2_code 23 (.aload_n 0) 1 24 := by decide +kernel
theorem d_S_sand_24 : dI prog_1_method_2_code 24 (.getfield 10) 3 27 := by decide +kernel
theorem d_S_sand_27 : dI prog_1_method_2_code 27 (.getfield 29) 3 30 := by decide +kernel
theorem d_S_sand_30 : dI prog_1_method_2_code 30 (.iload_n 1) 1 31 := by decide +kernel
theorem d_S_sand_31 : dI prog_1_method_2_code 31 .iaload 1 32 := by decide +kernel
theorem d_S_sand_32 : dI prog_1_method_2_code 32 (.istore_n 3) 1 33 := by decide +kernel
theorem d_S_sand_33 : dI prog_1_method_2_code 33 (.aload_n 0) 1 34 := by decide +kernel
theorem d_S_sand_34 : dI prog_1_method_2_code 34 (.getfield 10) 3 37 := by decide +kernel
theorem d_S_sand_37 : dI prog_1_method_2_code 37 (.getfield 29) 3 40 := by decide +kernel
theorem d_S_sand_40 : dI prog_1_method_2_code 40 (.iload_n 1) 1 41 := by decide +kernel
theorem d_S_sand_41 : dI prog_1_method_2_code 41 (.iload_n 2) 1 42 := by decide +kernel
theorem d_S_sand_42 : dI prog_1_method_2_code 42 .iastore 1 43 := by decide +kernel
theorem d_S_sand_43 : dI prog_1_method_2_code 43 (.iload_n 3) 1 44 := by decide +kernel
theorem d_S_sand_44 : decode prog_1_method_2_code 44 = .ok (.ireturn, 1) := by decide +kernel
theorem d_S_yardOf_0 : dI prog_1_method_3_code 0 (.iload_n 1) 1 1 := by decide +kernel
theorem d_S_yardOf_1 : dI prog_1_method_3_code 1 (.invokestatic 63) 3 4 := by decide +kernel
theorem d_S_yardOf_4 : dJ prog_1_method_3_code 4 (.ifCond .eq 12) 12 7 16 := by decide +kernel
theorem d_S_yardOf_7 : dI prog_1_method_3_code 7 (.iload_n 2) 1 8 := by decide +kernel
theorem d_S_yardOf_8 : dJ prog_1_method_3_code 8 (.ifCond .lt 8) 8 11 16 := by decide +kernel
theorem d_S_yardOf_11 : dI prog_1_method_3_code 11 (.iload_n 2) 1 12 := by decide +kernel
theorem d_S_yardOf_12 : dI prog_1_method_3_code 12 (.iconst 1) 1 13 ∧ Int32.ofInt 1 = 1 := by decide +kernel
theorem d_S_yardOf_13 : dJ prog_1_method_3_code 13 (.if_icmp .le 9) 9 16 22 := by decide +kernel
theorem d_S_yardOf_16 : dI prog_1_method_3_code 16 (.aload_n 0) 1 17 := by decide +kernel
theorem d_S_yardOf_17 : dI prog_1_method_3_code 17 (.iconst 0) 1 18 ∧ Int32.ofInt 0 = 0 := by decide +kernel
theorem d_S_yardOf_18 : dI prog_1_method_3_code 18 (.invokevirtual 67) 3 21 := by decide +kernel
theorem d_S_yardOf_21 : decode prog_1_method_3_code 21 = .ok (.ireturn, 1) := by decide +kernel
theorem d_S_yardOf_22 : dI prog_1_method_3_code 22 (.aload_n 0) 1 23 := by decide +kernel
theorem d_S_yardOf_23 : dI prog_1_method_3_code 23 (.getfield 10) 3 26 := by decide +kernel
theorem d_S_yardOf_26 : dI prog_1_method_3_code 26 (.getfield 29) 3 29 := by decide +kernel
theorem d_S_yardOf_29 : dI prog_1_method_3_code 29 (.iload_n 1) 1 30 := by decide +kernel
theorem d_S_yardOf_30 : dI prog_1_method_3_code 30 .iaload 1 31 := by decide +kernel
theorem d_S_yardOf_31 : dI prog_1_method_3_code 31 (.istore_n 3) 1 32 := by decide +kernel
theorem d_S_yardOf_32 : dI prog_1_method_3_code 32 (.iload_n 2) 1 33 := by decide +kernel
theorem d_S_yardOf_33 : dJ prog_1_method_3_code 33 (.ifCond .ne 7) 7 36 40 := by decide +kernel
theorem d_S_yardOf_36 : dI prog_1_method_3_code 36 (.iload_n 3) 1 37 := by decide +kernel
theorem d_S_yardOf_37 : dJ prog_1_method_3_code 37 (.goto 20) 20 40 57 := by decide +kernel
theorem d_S_yardOf_40 : dI prog_1_method_3_code 40 (.aload_n 0) 1 41 := by decide +kernel
theorem d_S_yardOf_41 : dI prog_1_method_3_code 41 (.getfield 26) 3 44 := by decide +kernel
theorem d_S_yardOf_44 : dI prog_1_method_3_code 44 (.iload_n 3) 1 45 := by decide +kernel
theorem d_S_yardOf_45 : dI prog_1_method_3_code 45 (.aload_n 0) 1 46 := by decide +kernel
theorem d_S_yardOf_46 : dI prog_1_method_3_code 46 (.getfield 26) 3 49 := by decide +kernel
theorem d_S_yardOf_49 : dI prog_1_method_3_code 49 (.getfield 71) 3 52 := by decide +kernel
theorem d_S_yardOf_52 : dI prog_1_method_3_code 52 (.iconst 3) 1 53 ∧ Int32.ofInt 3 = 3 := by decide +kernel
theorem d_S_yardOf_53 : dI prog_1_method_3_code 53 .iaload 1 54 := by decide +kernel
theorem d_S_yardOf_54 : dI prog_1_method_3_code 54 (.invokevirtual 74) 3 57 := by decide +kernel
theorem d_S_yardOf_57 : decode prog_1_method_3_code 57 = .ok (.ireturn, 1) := by decide +kernel
theorem d_S_set_0 : dI prog_1_method_4_code 0 (.iload_n 1) 1 1 := by decide +kernel
theorem d_S_set_1 : dJ prog_1_method_4_code 1 (.ifCond .lt 25) 25 4 26 := by decide +kernel
theorem d_S_set_4 : dI prog_1_method_4_code 4 (.iload_n 1) 1 5 := by decide +kernel
theorem d_S_set_5 : dI prog_1_method_4_code 5 (.bipush 6) 2 7 ∧ (Int8.ofInt 6).toInt32 = 6 := by decide +kernel
theorem d_S_set_7 : dJ prog_1_method_4_code 7 (.if_icmp .gt 19) 19 10 26 := by decide +kernel
theorem d_S_set_10 : dI prog_1_method_4_code 10 (.iload_n 2) 1 11 := by decide +kernel
theorem d_S_set_11 : dI prog_1_method_4_code 11 (.iload_n 1) 1 12 := by decide +kernel
theorem d_S_set_12 : dI prog_1_method_4_code 12 (.invokestatic 78) 3 15 := by decide +kernel
theorem d_S_set_15 : dJ prog_1_method_4_code 15 (.if_icmp .lt 11) 11 18 26 := by decide +kernel
theorem d_S_set_18 : dI prog_1_method_4_code 18 (.iload_n 2) 1 19 := by decide +kernel
theorem d_S_set_19 : dI prog_1_method_4_code 19 (.iload_n 1) 1 20 := by decide +kernel
theorem d_S_set_20 : dI prog_1_method_4_code 20 (.invokestatic 81) 3 23 := by decide +kernel
theorem d_S_set_23 : dJ prog_1_method_4_code 23 (.if_icmp .le 9) 9 26 32 := by decide +kernel
theorem d_S_set_26 : dI prog_1_method_4_code 26 (.aload_n 0) 1 27 := by decide +kernel
theorem d_S_set_27 : dI prog_1_method_4_code 27 (.iconst 0) 1 28 ∧ Int32.ofInt 0 = 0 := by decide +kernel
theorem d_S_set_28 : dI prog_1_method_4_code 28 (.invokevirtual 67) 3 31 := by decide +kernel
theorem d_S_set_31 : decode prog_1_method_4_code 31 = .ok (.ireturn, 1) := by decide +kernel
theorem d_S_set_32 : dI prog_1_method_4_code 32 (.aload_n 0) 1 33 := by decide +kernel
theorem d_S_set_33 : dI prog_1_method_4_code 33 (.getfield 26) 3 36 := by decide +kernel
theorem d_S_set_36 : dI prog_1_method_4_code 36 (.getfield 71) 3 39 := by decide +kernel
theorem d_S_set_39 : dI prog_1_method_4_code 39 (.iload_n 1) 1 40 := by decide +kernel
theorem d_S_set_40 : dI prog_1_method_4_code 40 .iaload 1 41 := by decide +kernel
theorem d_S_set_41 : dI prog_1_method_4_code 41 (.istore_n 3) 1 42 := by decide +kernel
theorem d_S_set_42 : dI prog_1_method_4_code 42 (.aload_n 0) 1 43 := by decide +kernel
theorem d_S_set_43 : dI prog_1_method_4_code 43 (.getfield 26) 3 46 := by decide +kernel
theorem d_S_set_46 : dI prog_1_method_4_code 46 (.getfield 71) 3 49 := by decide +kernel
theorem d_S_set_49 : dI prog_1_method_4_code 49 (.iload_n 1) 1 50 := by decide +kernel
theorem d_S_set_50 : dI prog_1_method_4_code 50 (.iload_n 2) 1 51 := by decide +kernel
theorem d_S_set_51 : dI prog_1_method_4_code 51 .iastore 1 52 := by decide +kernel
theorem d_S_set_52 : dI prog_1_method_4_code 52 (.iload_n 3) 1 53 := by decide +kernel
theorem d_S_set_53 : decode prog_1_method_4_code 53 = .ok (.ireturn, 1) := by decide +kernel
theorem d_S_now_0 : dI prog_1_method_5_code 0 (.iload_n 1) 1 1 := by decide +kernel
theorem d_S_now_1 : dJ prog_1_method_5_code 1 (.ifCond .lt 19) 19 4 20 := by decide +kernel
theorem d_S_now_4 : dI prog_1_method_5_code 4 (.iload_n 1) 1 5 := by decide +kernel
theorem d_S_now_5 : dI prog_1_method_5_code 5 (.bipush 7) 2 7 ∧ (Int8.ofInt 7).toInt32 = 7 := by decide +kernel
theorem d_S_now_7 : dJ prog_1_method_5_code 7 (.if_icmp .gt 13) 13 10 20 := by decide +kernel
theorem d_S_now_10 : dI prog_1_method_5_code 10 (.aload_n 0) 1 11 := by decide +kernel
theorem d_S_now_11 : dI prog_1_method_5_code 11 (.getfield 26) 3 14 := by decide +kernel
theorem d_S_now_14 : dI prog_1_method_5_code 14 (.getfield 71) 3 17 := by decide +kernel
theorem d_S_now_17 : dI prog_1_method_5_code 17 (.iload_n 1) 1 18 := by decide +kernel
theorem d_S_now_18 : dI prog_1_method_5_code 18 .iaload 1 19 := by decide +kernel
theorem d_S_now_19 : decode prog_1_method_5_code 19 = .ok (.ireturn, 1) := by decide +kernel
theorem d_S_now_20 : dI prog_1_method_5_code 20 (.iload_n 1) 1 21 := by decide +kernel
theorem d_S_now_21 : decode prog_1_method_5_code 21 = .ok (.tableswitch 101 8 13 #[39, 47, 55, 63, 79, 90], 39) := by decide +kernel
theorem d_S_now_60 : dI prog_1_method_5_code 60 (.aload_n 0) 1 61 := by decide +kernel
theorem d_S_now_61 : dI prog_1_method_5_code 61 (.getfield 26) 3 64 := by decide +kernel
theorem d_S_now_64 : dI prog_1_method_5_code 64 (.invokevirtual 84) 3 67 := by decide +kernel
theorem d_S_now_67 : decode prog_1_method_5_code 67 = .ok (.ireturn, 1) := by decide +kernel
theorem d_S_now_68 : dI prog_1_method_5_code 68 (.aload_n 0) 1 69 := by decide +kernel
theorem d_S_now_69 : dI prog_1_method_5_code 69 (.getfield 26) 3 72 := by decide +kernel
theorem d_S_now_72 : dI prog_1_method_5_code 72 (.invokevirtual 88) 3 75 := by decide +kernel
theorem d_S_now_75 : decode prog_1_method_5_code 75 = .ok (.ireturn, 1) := by decide +kernel
theorem d_S_now_76 : dI prog_1_method_5_code 76 (.aload_n 0) 1 77 := by decide +kernel
theorem d_S_now_77 : dI prog_1_method_5_code 77 (.getfield 26) 3 80 := by decide +kernel
theorem d_S_now_80 : dI prog_1_method_5_code 80 (.invokevirtual 91) 3 83 := by decide +kernel
theorem d_S_now_83 : decode prog_1_method_5_code 83 = .ok (.ireturn, 1) := by decide +kernel
theorem d_S_now_84 : dI prog_1_method_5_code 84 (.aload_n 0) 1 85 := by decide +kernel
theorem d_S_now_85 : dI prog_1_method_5_code 85 (.getfield 26) 3 88 := by decide +kernel
theorem d_S_now_88 : dI prog_1_method_5_code 88 (.invokevirtual 94) 3 91 := by decide +kernel
theorem d_S_now_91 : dJ prog_1_method_5_code 91 (.ifCond .eq 7) 7 94 98 := by decide +kernel
theorem d_S_now_94 : dI prog_1_method_5_code 94 (.iconst 1) 1 95 ∧ Int32.ofInt 1 = 1 := by decide +kernel
theorem d_S_now_95 : dJ prog_1_method_5_code 95 (.goto 4) 4 98 99 := by decide +kernel
theorem d_S_now_98 : dI prog_1_method_5_code 98 (.iconst 0) 1 99 ∧ Int32.ofInt 0 = 0 := by decide +kernel
theorem d_S_now_99 : decode prog_1_method_5_code 99 = .ok (.ireturn, 1) := by decide +kernel
theorem d_S_now_100 : dI prog_1_method_5_code 100 (.aload_n 0) 1 101 := by decide +kernel
theorem d_S_now_101 : dI prog_1_method_5_code 101 (.getfield 26) 3 104 := by decide +kernel
theorem d_S_now_104 : dI prog_1_method_5_code 104 (.getfield 71) 3 107 := by decide +kernel
theorem d_S_now_107 : dI prog_1_method_5_code 107 (.bipush 8) 2 109 ∧ (Int8.ofInt 8).toInt32 = 8 := by decide +kernel
theorem d_S_now_109 : dI prog_1_method_5_code 109 .iaload 1 110 := by decide +kernel
theorem d_S_now_110 : decode prog_1_method_5_code 110 = .ok (.ireturn, 1) := by decide +kernel
theorem d_S_now_111 : dI prog_1_method_5_code 111 (.aload_n 0) 1 112 := by decide +kernel
theorem d_S_now_112 : dI prog_1_method_5_code 112 (.getfield 26) 3 115 := by decide +kernel
theorem d_S_now_115 : dI prog_1_method_5_code 115 (.getfield 71) 3 118 := by decide +kernel
theorem d_S_now_118 : dI prog_1_method_5_code 118 (.bipush 9) 2 120 ∧ (Int8.ofInt 9).toInt32 = 9 := by decide +kernel
theorem d_S_now_120 : dI prog_1_method_5_code 120 .iaload 1 121 := by decide +kernel
theorem d_S_now_121 : decode prog_1_method_5_code 121 = .ok (.ireturn, 1) := by decide +kernel
theorem d_S_now_122 : dI prog_1_method_5_code 122 (.aload_n 0) 1 123 := by decide +kernel
theorem d_S_now_123 : dI prog_1_method_5_code 123 (.iconst 0) 1 124 ∧ Int32.ofInt 0 = 0 := by decide +kernel
theorem d_S_now_124 : dI prog_1_method_5_code 124 (.invokevirtual 67) 3 127 := by decide +kernel
theorem d_S_now_127 : decode prog_1_method_5_code 127 = .ok (.ireturn, 1) := by decide +kernel
theorem d_S_soft_0 : dI prog_1_method_6_code 0 (.iload_n 1) 1 1 := by decide +kernel
theorem d_S_soft_1 : dJ prog_1_method_6_code 1 (.ifCond .lt 18) 18 4 19 := by decide +kernel
theorem d_S_soft_4 : dI prog_1_method_6_code 4 (.iload_n 1) 1 5 := by decide +kernel
theorem d_S_soft_5 : dI prog_1_method_6_code 5 (.bipush 100) 2 7 ∧ (Int8.ofInt 100).toInt32 = 100 := by decide +kernel
theorem d_S_soft_7 : dJ prog_1_method_6_code 7 (.if_icmp .gt 12) 12 10 19 := by decide +kernel
theorem d_S_soft_10 : dI prog_1_method_6_code 10 (.iload_n 2) 1 11 := by decide +kernel
theorem d_S_soft_11 : dJ prog_1_method_6_code 11 (.ifCond .lt 8) 8 14 19 := by decide +kernel
theorem d_S_soft_14 : dI prog_1_method_6_code 14 (.iload_n 2) 1 15 := by decide +kernel
theorem d_S_soft_15 : dI prog_1_method_6_code 15 (.iconst 1) 1 16 ∧ Int32.ofInt 1 = 1 := by decide +kernel
theorem d_S_soft_16 : dJ prog_1_method_6_code 16 (.if_icmp .le 9) 9 19 25 := by decide +kernel
theorem d_S_soft_19 : dI prog_1_method_6_code 19 (.aload_n 0) 1 20 := by decide +kernel
theorem d_S_soft_20 : dI prog_1_method_6_code 20 (.iconst 0) 1 21 ∧ Int32.ofInt 0 = 0 := by decide +kernel
theorem d_S_soft_21 : dI prog_1_method_6_code 21 (.invokevirtual 67) 3 24 := by decide +kernel
theorem d_S_soft_24 : decode prog_1_method_6_code 24 = .ok (.ireturn, 1) := by decide +kernel
theorem d_S_soft_25 : dI prog_1_method_6_code 25 (.iconst 0) 1 26 ∧ Int32.ofInt 0 = 0 := by decide +kernel
theorem d_S_soft_26 : dI prog_1_method_6_code 26 (.istore_n 3) 1 27 := by decide +kernel
theorem d_S_soft_27 : dI prog_1_method_6_code 27 (.iconst (-1)) 1 28 ∧ Int32.ofInt (-1) = (-1) := by decide +kernel
theorem d_S_soft_28 : dI prog_1_method_6_code 28 (.istore 4) 2 30 := by decide +kernel
theorem d_S_soft_30 : dI prog_1_method_6_code 30 (.iconst 0) 1 31 ∧ Int32.ofInt 0 = 0 := by decide +kernel
theorem d_S_soft_31 : dI prog_1_method_6_code 31 (.istore 5) 2 33 := by decide +kernel
theorem d_S_soft_33 : dI prog_1_method_6_code 33 (.iconst 0) 1 34 ∧ Int32.ofInt 0 = 0 := by decide +kernel
theorem d_S_soft_34 : dI prog_1_method_6_code 34 (.istore 6) 2 36 := by decide +kernel
theorem d_S_soft_36 : dI prog_1_method_6_code 36 (.iload 6) 2 38 := by decide +kernel
theorem d_S_soft_38 : dI prog_1_method_6_code 38 (.bipush 40) 2 40 ∧ (Int8.ofInt 40).toInt32 = 40 := by decide +kernel
theorem d_S_soft_40 : dJ prog_1_method_6_code 40 (.if_icmp .ge 51) 51 43 91 := by decide +kernel
theorem d_S_soft_43 : dI prog_1_method_6_code 43 (.aload_n 0) 1 44 := by decide +kernel
theorem d_S_soft_44 : dI prog_1_method_6_code 44 (.getfield 10) 3 47 := by decide +kernel
theorem d_S_soft_47 : dI prog_1_method_6_code 47 (.getfield 29) 3 50 := by decide +kernel
theorem d_S_soft_50 : dI prog_1_method_6_code 50 (.iload 6) 2 52 := by decide +kernel
theorem d_S_soft_52 : dI prog_1_method_6_code 52 .iaload 1 53 := by decide +kernel
theorem d_S_soft_53 : dI prog_1_method_6_code 53 (.iload_n 1) 1 54 := by decide +kernel
theorem d_S_soft_54 : dJ prog_1_method_6_code 54 (.if_icmp .ge 10) 10 57 64 := by decide +kernel
theorem d_S_soft_57 : dI prog_1_method_6_code 57 (.iload 5) 2 59 := by decide +kernel
theorem d_S_soft_59 : dI prog_1_method_6_code 59 (.iconst 1) 1 60 ∧ Int32.ofInt 1 = 1 := by decide +kernel
theorem d_S_soft_60 : dI prog_1_method_6_code 60 .iadd 1 61 := by decide +kernel
theorem d_S_soft_61 : dJ prog_1_method_6_code 61 (.goto 4) 4 64 65 := by decide +kernel
theorem d_S_soft_64 : dI prog_1_method_6_code 64 (.iconst 0) 1 65 ∧ Int32.ofInt 0 = 0 := by decide +kernel
theorem d_S_soft_65 : dI prog_1_method_6_code 65 (.istore 5) 2 67 := by decide +kernel
theorem d_S_soft_67 : dI prog_1_method_6_code 67 (.iload 5) 2 69 := by decide +kernel
theorem d_S_soft_69 : dI prog_1_method_6_code 69 (.iload_n 3) 1 70 := by decide +kernel
theorem d_S_soft_70 : dJ prog_1_method_6_code 70 (.if_icmp .le 15) 15 73 85 := by decide +kernel
theorem d_S_soft_73 : dI prog_1_method_6_code 73 (.iload 5) 2 75 := by decide +kernel
theorem d_S_soft_75 : dI prog_1_method_6_code 75 (.istore_n 3) 1 76 := by decide +kernel
theorem d_S_soft_76 : dI prog_1_method_6_code 76 (.iload 6) 2 78 := by decide +kernel
theorem d_S_soft_78 : dI prog_1_method_6_code 78 (.iload 5) 2 80 := by decide +kernel
theorem d_S_soft_80 : dI prog_1_method_6_code 80 .isub 1 81 := by decide +kernel
theorem d_S_soft_81 : dI prog_1_method_6_code 81 (.iconst 1) 1 82 ∧ Int32.ofInt 1 = 1 := by decide +kernel
theorem d_S_soft_82 : dI prog_1_method_6_code 82 .iadd 1 83 := by decide +kernel
theorem d_S_soft_83 : dI prog_1_method_6_code 83 (.istore 4) 2 85 := by decide +kernel
theorem d_S_soft_85 : dI prog_1_method_6_code 85 (.iinc 6 1) 3 88 ∧ Int32.ofInt 1 = 1 := by decide +kernel
theorem d_S_soft_88 : dJ prog_1_method_6_code 88 (.goto (-52)) (-52) 91 36 := by decide +kernel
theorem d_S_soft_91 : dI prog_1_method_6_code 91 (.iload_n 2) 1 92 := by decide +kernel
theorem d_S_soft_92 : dJ prog_1_method_6_code 92 (.ifCond .ne 7) 7 95 99 := by decide +kernel
theorem d_S_soft_95 : dI prog_1_method_6_code 95 (.iload_n 3) 1 96 := by decide +kernel
theorem d_S_soft_96 : dJ prog_1_method_6_code 96 (.goto 5) 5 99 101 := by decide +kernel
theorem d_S_soft_99 : dI prog_1_method_6_code 99 (.iload 4) 2 101 := by decide +kernel
theorem d_S_soft_101 : decode prog_1_method_6_code 101 = .ok (.ireturn, 1) := by decide +kernel
theorem d_S_wind_0 : dI prog_1_method_7_code 0 (.iload_n 1) 1 1 := by decide +kernel
theorem d_S_wind_1 : dI prog_1_method_7_code 1 (.iconst 1) 1 2 ∧ Int32.ofInt 1 = 1 := by decide +kernel
theorem d_S_wind_2 : dJ prog_1_method_7_code 2 (.if_icmp .lt 9) 9 5 11 := by decide +kernel
theorem d_S_wind_5 : dI prog_1_method_7_code 5 (.iload_n 1) 1 6 := by decide +kernel
theorem d_S_wind_6 : dI prog_1_method_7_code 6 (.bipush 60) 2 8 ∧ (Int8.ofInt 60).toInt32 = 60 := by decide +kernel
theorem d_S_wind_8 : dJ prog_1_method_7_code 8 (.if_icmp .le 9) 9 11 17 := by decide +kernel
theorem d_S_wind_11 : dI prog_1_method_7_code 11 (.aload_n 0) 1 12 := by decide +kernel
theorem d_S_wind_12 : dI prog_1_method_7_code 12 (.iconst 0) 1 13 ∧ Int32.ofInt 0 = 0 := by decide +kernel
theorem d_S_wind_13 : dI prog_1_method_7_code 13 (.invokevirtual 67) 3 16 := by decide +kernel
theorem d_S_wind_16 : decode prog_1_method_7_code 16 = .ok (.ireturn, 1) := by decide +kernel
theorem d_S_wind_17 : dI prog_1_method_7_code 17 (.iconst 0) 1 18 ∧ Int32.ofInt 0 = 0 := by decide +kernel
theorem d_S_wind_18 : dI prog_1_method_7_code 18 (.istore_n 2) 1 19 := by decide +kernel
theorem d_S_wind_19 : dI prog_1_method_7_code 19 (.iload_n 2) 1 20 := by decide +kernel
theorem d_S_wind_20 : dI prog_1_method_7_code 20 (.iload_n 1) 1 21 := by decide +kernel
theorem d_S_wind_21 : dJ prog_1_method_7_code 21 (.if_icmp .ge 50) 50 24 71 := by decide +kernel
theorem d_S_wind_24 : dI prog_1_method_7_code 24 (.aload_n 0) 1 25 := by decide +kernel
theorem d_S_wind_25 : dI prog_1_method_7_code 25 (.getfield 10) 3 28 := by decide +kernel
theorem d_S_wind_28 : dI prog_1_method_7_code 28 (.invokevirtual 98) 3 31 := by decide +kernel
theorem d_S_wind_31 : dI prog_1_method_7_code 31 (.bipush 40) 2 33 ∧ (Int8.ofInt 40).toInt32 = 40 := by decide +kernel
theorem d_S_wind_33 : dI prog_1_method_7_code 33 .irem 1 34 := by decide +kernel
theorem d_S_wind_34 : dI prog_1_method_7_code 34 (.istore_n 3) 1 35 := by decide +kernel
theorem d_S_wind_35 : dI prog_1_method_7_code 35 (.aload_n 0) 1 36 := by decide +kernel
theorem d_S_wind_36 : dI prog_1_method_7_code 36 (.getfield 10) 3 39 := by decide +kernel
theorem d_S_wind_39 : dI prog_1_method_7_code 39 (.invokevirtual 98) 3 42 := by decide +kernel
theorem d_S_wind_42 : dI prog_1_method_7_code 42 (.bipush 100) 2 44 ∧ (Int8.ofInt 100).toInt32 = 100 := by decide +kernel
theorem d_S_wind_44 : dI prog_1_method_7_code 44 .irem 1 45 := by decide +kernel
theorem d_S_wind_45 : dI prog_1_method_7_code 45 (.istore 4) 2 47 := by decide +kernel
theorem d_S_wind_47 : dI prog_1_method_7_code 47 (.iload_n 3) 1 48 := by decide +kernel
theorem d_S_wind_48 : dI prog_1_method_7_code 48 (.invokestatic 63) 3 51 := by decide +kernel
theorem d_S_wind_51 : dJ prog_1_method_7_code 51 (.ifCond .eq 14) 14 54 65 := by decide +kernel
theorem d_S_wind_54 : dI prog_1_method_7_code 54 (.aload_n 0) 1 55 := by decide +kernel
theorem d_S_wind_55 : dI prog_1_method_7_code 55 (.getfield 10) 3 58 := by decide +kernel
theorem d_S_wind_58 : dI prog_1_method_7_code 58 (.getfield 29) 3 61 := by decide +kernel
theorem d_S_wind_61 : dI prog_1_method_7_code 61 (.iload_n 3) 1 62 := by decide +kernel
theorem d_S_wind_62 : dI prog_1_method_7_code 62 (.iload 4) 2 64 := by decide +kernel
theorem d_S_wind_64 : dI prog_1_method_7_code 64 .iastore 1 65 := by decide +kernel
theorem d_S_wind_65 : dI prog_1_method_7_code 65 (.iinc 2 1) 3 68 ∧ Int32.ofInt 1 = 1 := by decide +kernel
theorem d_S_wind_68 : dJ prog_1_method_7_code 68 (.goto (-49)) (-49) 71 19 := by decide +kernel
theorem d_S_wind_71 : dI prog_1_method_7_code 71 (.aload_n 0) 1 72 := by decide +kernel
theorem d_S_wind_72 : dI prog_1_method_7_code 72 (.getfield 10) 3 75 := by decide +kernel
theorem d_S_wind_75 : dI prog_1_method_7_code 75 (.invokevirtual 101) 3 78 := by decide +kernel
theorem d_S_wind_78 : decode prog_1_method_7_code 78 = .ok (.ireturn, 1) := by decide +kernel
theorem d_S_effort_0 : dI prog_1_method_8_code 0 (.iload_n 1) 1 1 := by decide +kernel
theorem d_S_effort_1 : dI prog_1_method_8_code 1 (.invokestatic 104) 3 4 := by decide +kernel
theorem d_S_effort_4 : dJ prog_1_method_8_code 4 (.ifCond .eq 14) 14 7 18 := by decide +kernel
theorem d_S_effort_7 : dI prog_1_method_8_code 7 (.iload_n 2) 1 8 := by decide +kernel
theorem d_S_effort_8 : dI prog_1_method_8_code 8 (.iconst (-1)) 1 9 ∧ Int32.ofInt (-1) = (-1) := by decide +kernel
theorem d_S_effort_9 : dJ prog_1_method_8_code 9 (.if_icmp .lt 9) 9 12 18 := by decide +kernel
theorem d_S_effort_12 : dI prog_1_method_8_code 12 (.iload_n 2) 1 13 := by decide +kernel
theorem d_S_effort_13 : dI prog_1_method_8_code 13 (.bipush 8) 2 15 ∧ (Int8.ofInt 8).toInt32 = 8 := by decide +kernel
theorem d_S_effort_15 : dJ prog_1_method_8_code 15 (.if_icmp .lt 9) 9 18 24 := by decide +kernel
theorem d_S_effort_18 : dI prog_1_method_8_code 18 (.aload_n 0) 1 19 := by decide +kernel
theorem d_S_effort_19 : dI prog_1_method_8_code 19 (.iconst 0) 1 20 ∧ Int32.ofInt 0 = 0 := by decide +kernel
theorem d_S_effort_20 : dI prog_1_method_8_code 20 (.invokevirtual 67) 3 23 := by decide +kernel
theorem d_S_effort_23 : decode prog_1_method_8_code 23 = .ok (.ireturn, 1) := by decide +kernel
theorem d_S_effort_24 : dI prog_1_method_8_code 24 (.aload_n 0) 1 25 := by decide +kernel
theorem d_S_effort_25 : dI prog_1_method_8_code 25 (.getfield 10) 3 28 := by decide +kernel
theorem d_S_effort_28 : dI prog_1_method_8_code 28 (.getfield 107) 3 31 := by decide +kernel
theorem d_S_effort_31 : dI prog_1_method_8_code 31 (.iload_n 1) 1 32 := by decide +kernel
theorem d_S_effort_32 : dI prog_1_method_8_code 32 (.iload_n 2) 1 33 := by decide +kernel
theorem d_S_effort_33 : dI prog_1_method_8_code 33 .iastore 1 34 := by decide +kernel
theorem d_S_effort_34 : dI prog_1_method_8_code 34 (.iconst 1) 1 35 ∧ Int32.ofInt 1 = 1 := by decide +kernel
theorem d_S_effort_35 : decode prog_1_method_8_code 35 = .ok (.ireturn, 1) := by decide +kernel
theorem d_S_effortOf_0 : dI prog_1_method_9_code 0 (.iload_n 1) 1 1 := by decide +kernel
theorem d_S_effortOf_1 : dI prog_1_method_9_code 1 (.invokestatic 104) 3 4 := by decide +kernel
theorem d_S_effortOf_4 : dJ prog_1_method_9_code 4 (.ifCond .eq 12) 12 7 16 := by decide +kernel
theorem d_S_effortOf_7 : dI prog_1_method_9_code 7 (.iload_n 2) 1 8 := by decide +kernel
theorem d_S_effortOf_8 : dJ prog_1_method_9_code 8 (.ifCond .lt 8) 8 11 16 := by decide +kernel
theorem d_S_effortOf_11 : dI prog_1_method_9_code 11 (.iload_n 2) 1 12 := by decide +kernel
theorem d_S_effortOf_12 : dI prog_1_method_9_code 12 (.iconst 3) 1 13 ∧ Int32.ofInt 3 = 3 := by decide +kernel
theorem d_S_effortOf_13 : dJ prog_1_method_9_code 13 (.if_icmp .le 9) 9 16 22 := by decide +kernel
theorem d_S_effortOf_16 : dI prog_1_method_9_code 16 (.aload_n 0) 1 17 := by decide +kernel
theorem d_S_effortOf_17 : dI prog_1_method_9_code 17 (.iconst 0) 1 18 ∧ Int32.ofInt 0 = 0 := by decide +kernel
theorem d_S_effortOf_18 : dI prog_1_method_9_code 18 (.invokevirtual 67) 3 21 := by decide +kernel
theorem d_S_effortOf_21 : decode prog_1_method_9_code 21 = .ok (.ireturn, 1) := by decide +kernel
theorem d_S_effortOf_22 : dI prog_1_method_9_code 22 (.aload_n 0) 1 23 := by decide +kernel
theorem d_S_effortOf_23 : dI prog_1_method_9_code 23 (.getfield 10) 3 26 := by decide +kernel
theorem d_S_effortOf_26 : dI prog_1_method_9_code 26 (.getfield 107) 3 29 := by decide +kernel
theorem d_S_effortOf_29 : dI prog_1_method_9_code 29 (.iload_n 1) 1 30 := by decide +kernel
theorem d_S_effortOf_30 : dI prog_1_method_9_code 30 .iaload 1 31 := by decide +kernel
theorem d_S_effortOf_31 : dI prog_1_method_9_code 31 (.istore_n 3) 1 32 := by decide +kernel
theorem d_S_effortOf_32 : dI prog_1_method_9_code 32 (.iload_n 3) 1 33 := by decide +kernel
theorem d_S_effortOf_33 : dI prog_1_method_9_code 33 (.iconst (-1)) 1 34 ∧ Int32.ofInt (-1) = (-1) := by decide +kernel
theorem d_S_effortOf_34 : dJ prog_1_method_9_code 34 (.if_icmp .ne 9) 9 37 43 := by decide +kernel
theorem d_S_effortOf_37 : dI prog_1_method_9_code 37 (.aload_n 0) 1 38 := by decide +kernel
theorem d_S_effortOf_38 : dI prog_1_method_9_code 38 (.iconst 3) 1 39 ∧ Int32.ofInt 3 = 3 := by decide +kernel
theorem d_S_effortOf_39 : dI prog_1_method_9_code 39 (.invokevirtual 67) 3 42 := by decide +kernel
theorem d_S_effortOf_42 : decode prog_1_method_9_code 42 = .ok (.ireturn, 1) := by decide +kernel
theorem d_S_effortOf_43 : dI prog_1_method_9_code 43 (.iload_n 2) 1 44 := by decide +kernel
theorem d_S_effortOf_44 : decode prog_1_method_9_code 44 = .ok (.tableswitch 44 0 2 #[28, 30, 39], 28) := by decide +kernel
theorem d_S_effortOf_72 : dI prog_1_method_9_code 72 (.iload_n 3) 1 73 := by decide +kernel
theorem d_S_effortOf_73 : decode prog_1_method_9_code 73 = .ok (.ireturn, 1) := by decide +kernel
theorem d_S_effortOf_74 : dI prog_1_method_9_code 74 (.aload_n 0) 1 75 := by decide +kernel
theorem d_S_effortOf_75 : dI prog_1_method_9_code 75 (.getfield 26) 3 78 := by decide +kernel
theorem d_S_effortOf_78 : dI prog_1_method_9_code 78 (.iload_n 3) 1 79 := by decide +kernel
theorem d_S_effortOf_79 : dI prog_1_method_9_code 79 (.invokevirtual 110) 3 82 := by decide +kernel
theorem d_S_effortOf_82 : decode prog_1_method_9_code 82 = .ok (.ireturn, 1) := by decide +kernel
theorem d_S_effortOf_83 : dI prog_1_method_9_code 83 (.iload_n 3) 1 84 := by decide +kernel
theorem d_S_effortOf_84 : dI prog_1_method_9_code 84 (.invokestatic 113) 3 87 := by decide +kernel
theorem d_S_effortOf_87 : decode prog_1_method_9_code 87 = .ok (.ireturn, 1) := by decide +kernel
theorem d_S_effortOf_88 : dI prog_1_method_9_code 88 (.aload_n 0) 1 89 := by decide +kernel
theorem d_S_effortOf_89 : dI prog_1_method_9_code 89 (.getfield 26) 3 92 := by decide +kernel
theorem d_S_effortOf_92 : dI prog_1_method_9_code 92 (.iload_n 3) 1 93 := by decide +kernel
theorem d_S_effortOf_93 : dI prog_1_method_9_code 93 (.invokevirtual 116) 3 96 := by decide +kernel
theorem d_S_effortOf_96 : decode prog_1_method_9_code 96 = .ok (.ireturn, 1) := by decide +kernel
theorem d_S_go_0 : dI prog_1_method_10_code 0 (.iload_n 1) 1 1 := by decide +kernel
theorem d_S_go_1 : dI prog_1_method_10_code 1 (.invokestatic 104) 3 4 := by decide +kernel
theorem d_S_go_4 : dJ prog_1_method_10_code 4 (.ifCond .ne 9) 9 7 13 := by decide +kernel
theorem d_S_go_7 : dI prog_1_method_10_code 7 (.aload_n 0) 1 8 := by decide +kernel
theorem d_S_go_8 : dI prog_1_method_10_code 8 (.iconst 0) 1 9 ∧ Int32.ofInt 0 = 0 := by decide +kernel
theorem d_S_go_9 : dI prog_1_method_10_code 9 (.invokevirtual 67) 3 12 := by decide +kernel
theorem d_S_go_12 : decode prog_1_method_10_code 12 = .ok (.ireturn, 1) := by decide +kernel
theorem d_S_go_13 : dI prog_1_method_10_code 13 (.aload_n 0) 1 14 := by decide +kernel
theorem d_S_go_14 : dI prog_1_method_10_code 14 (.getfield 10) 3 17 := by decide +kernel
theorem d_S_go_17 : dI prog_1_method_10_code 17 (.getfield 107) 3 20 := by decide +kernel
theorem d_S_go_20 : dI prog_1_method_10_code 20 (.iload_n 1) 1 21 := by decide +kernel
theorem d_S_go_21 : dI prog_1_method_10_code 21 .iaload 1 22 := by decide +kernel
theorem d_S_go_22 : dI prog_1_method_10_code 22 (.istore_n 2) 1 23 := by decide +kernel
theorem d_S_go_23 : dI prog_1_method_10_code 23 (.iload_n 2) 1 24 := by decide +kernel
theorem d_S_go_24 : dI prog_1_method_10_code 24 (.iconst (-1)) 1 25 ∧ Int32.ofInt (-1) = (-1) := by decide +kernel
theorem d_S_go_25 : dJ prog_1_method_10_code 25 (.if_icmp .ne 9) 9 28 34 := by decide +kernel
theorem d_S_go_28 : dI prog_1_method_10_code 28 (.aload_n 0) 1 29 := by decide +kernel
theorem d_S_go_29 : dI prog_1_method_10_code 29 (.iconst 3) 1 30 ∧ Int32.ofInt 3 = 3 := by decide +kernel
theorem d_S_go_30 : dI prog_1_method_10_code 30 (.invokevirtual 67) 3 33 := by decide +kernel
theorem d_S_go_33 : decode prog_1_method_10_code 33 = .ok (.ireturn, 1) := by decide +kernel
theorem d_S_go_34 : dI prog_1_method_10_code 34 (.aload_n 0) 1 35 := by decide +kernel
theorem d_S_go_35 : dI prog_1_method_10_code 35 (.getfield 26) 3 38 := by decide +kernel
theorem d_S_go_38 : dI prog_1_method_10_code 38 (.getfield 71) 3 41 := by decide +kernel
theorem d_S_go_41 : dI prog_1_method_10_code 41 (.iconst 0) 1 42 ∧ Int32.ofInt 0 = 0 := by decide +kernel
theorem d_S_go_42 : dI prog_1_method_10_code 42 .iaload 1 43 := by decide +kernel
theorem d_S_go_43 : dI prog_1_method_10_code 43 (.istore_n 3) 1 44 := by decide +kernel
theorem d_S_go_44 : dI prog_1_method_10_code 44 (.aload_n 0) 1 45 := by decide +kernel
theorem d_S_go_45 : dI prog_1_method_10_code 45 (.getfield 26) 3 48 := by decide +kernel
theorem d_S_go_48 : dI prog_1_method_10_code 48 (.iload_n 2) 1 49 := by decide +kernel
theorem d_S_go_49 : dI prog_1_method_10_code 49 (.invokevirtual 119) 3 52 := by decide +kernel
theorem d_S_go_52 : dJ prog_1_method_10_code 52 (.ifCond .ne 9) 9 55 61 := by decide +kernel
theorem d_S_go_55 : dI prog_1_method_10_code 55 (.aload_n 0) 1 56 := by decide +kernel
theorem d_S_go_56 : dI prog_1_method_10_code 56 (.iconst 4) 1 57 ∧ Int32.ofInt 4 = 4 := by decide +kernel
theorem d_S_go_57 : dI prog_1_method_10_code 57 (.invokevirtual 67) 3 60 := by decide +kernel
theorem d_S_go_60 : decode prog_1_method_10_code 60 = .ok (.ireturn, 1) := by decide +kernel
theorem d_S_go_61 : dI prog_1_method_10_code 61 (.aload_n 0) 1 62 := by decide +kernel
theorem d_S_go_62 : dI prog_1_method_10_code 62 (.getfield 26) 3 65 := by decide +kernel
theorem d_S_go_65 : dI prog_1_method_10_code 65 (.getfield 71) 3 68 := by decide +kernel
theorem d_S_go_68 : dI prog_1_method_10_code 68 (.iconst 0) 1 69 ∧ Int32.ofInt 0 = 0 := by decide +kernel
theorem d_S_go_69 : dI prog_1_method_10_code 69 .iaload 1 70 := by decide +kernel
theorem d_S_go_70 : dI prog_1_method_10_code 70 (.iload_n 3) 1 71 := by decide +kernel
theorem d_S_go_71 : dI prog_1_method_10_code 71 .isub 1 72 := by decide +kernel
theorem d_S_go_72 : decode prog_1_method_10_code 72 = .ok (.ireturn, 1) := by decide +kernel
theorem d_S_gives_0 : dI prog_1_method_11_code 0 (.iload_n 1) 1 1 := by decide +kernel
theorem d_S_gives_1 : dI prog_1_method_11_code 1 (.invokestatic 104) 3 4 := by decide +kernel
theorem d_S_gives_4 : dJ prog_1_method_11_code 4 (.ifCond .eq 12) 12 7 16 := by decide +kernel
theorem d_S_gives_7 : dI prog_1_method_11_code 7 (.iload_n 2) 1 8 := by decide +kernel
theorem d_S_gives_8 : dJ prog_1_method_11_code 8 (.ifCond .lt 8) 8 11 16 := by decide +kernel
theorem d_S_gives_11 : dI prog_1_method_11_code 11 (.iload_n 2) 1 12 := by decide +kernel
theorem d_S_gives_12 : dI prog_1_method_11_code 12 (.iconst 3) 1 13 ∧ Int32.ofInt 3 = 3 := by decide +kernel
theorem d_S_gives_13 : dJ prog_1_method_11_code 13 (.if_icmp .le 9) 9 16 22 := by decide +kernel
theorem d_S_gives_16 : dI prog_1_method_11_code 16 (.aload_n 0) 1 17 := by decide +kernel
theorem d_S_gives_17 : dI prog_1_method_11_code 17 (.iconst 0) 1 18 ∧ Int32.ofInt 0 = 0 := by decide +kernel
theorem d_S_gives_18 : dI prog_1_method_11_code 18 (.invokevirtual 67) 3 21 := by decide +kernel
theorem d_S_gives_21 : decode prog_1_method_11_code 21 = .ok (.ireturn, 1) := by decide +kernel
theorem d_S_gives_22 : dI prog_1_method_11_code 22 (.aload_n 0) 1 23 := by decide +kernel
theorem d_S_gives_23 : dI prog_1_method_11_code 23 (.getfield 10) 3 26 := by decide +kernel
theorem d_S_gives_26 : dI prog_1_method_11_code 26 (.getfield 107) 3 29 := by decide +kernel
theorem d_S_gives_29 : dI prog_1_method_11_code 29 (.iload_n 1) 1 30 := by decide +kernel
theorem d_S_gives_30 : dI prog_1_method_11_code 30 .iaload 1 31 := by decide +kernel
theorem d_S_gives_31 : dI prog_1_method_11_code 31 (.istore_n 3) 1 32 := by decide +kernel
theorem d_S_gives_32 : dI prog_1_method_11_code 32 (.iload_n 3) 1 33 := by decide +kernel
theorem d_S_gives_33 : dI prog_1_method_11_code 33 (.iconst (-1)) 1 34 ∧ Int32.ofInt (-1) = (-1) := by decide +kernel
theorem d_S_gives_34 : dJ prog_1_method_11_code 34 (.if_icmp .ne 9) 9 37 43 := by decide +kernel
theorem d_S_gives_37 : dI prog_1_method_11_code 37 (.aload_n 0) 1 38 := by decide +kernel
theorem d_S_gives_38 : dI prog_1_method_11_code 38 (.iconst 3) 1 39 ∧ Int32.ofInt 3 = 3 := by decide +kernel
theorem d_S_gives_39 : dI prog_1_method_11_code 39 (.invokevirtual 67) 3 42 := by decide +kernel
theorem d_S_gives_42 : decode prog_1_method_11_code 42 = .ok (.ireturn, 1) := by decide +kernel
theorem d_S_gives_43 : dI prog_1_method_11_code 43 (.aload_n 0) 1 44 := by decide +kernel
theorem d_S_gives_44 : dI prog_1_method_11_code 44 (.getfield 36) 3 47 := by decide +kernel
theorem d_S_gives_47 : dI prog_1_method_11_code 47 (.aload_n 0) 1 48 := by decide +kernel
theorem d_S_gives_48 : dI prog_1_method_11_code 48 (.getfield 26) 3 51 := by decide +kernel
theorem d_S_gives_51 : dI prog_1_method_11_code 51 (.invokevirtual 122) 3 54 := by decide +kernel
theorem d_S_gives_54 : dI prog_1_method_11_code 54 (.aload_n 0) 1 55 := by decide +kernel
theorem d_S_gives_55 : dI prog_1_method_11_code 55 (.getfield 36) 3 58 := by decide +kernel
theorem d_S_gives_58 : dI prog_1_method_11_code 58 (.iload_n 3) 1 59 := by decide +kernel
theorem d_S_gives_59 : dI prog_1_method_11_code 59 (.invokevirtual 119) 3 62 := by decide +kernel
theorem d_S_gives_62 : dJ prog_1_method_11_code 62 (.ifCond .ne 9) 9 65 71 := by decide +kernel
theorem d_S_gives_65 : dI prog_1_method_11_code 65 (.aload_n 0) 1 66 := by decide +kernel
theorem d_S_gives_66 : dI prog_1_method_11_code 66 (.iconst 4) 1 67 ∧ Int32.ofInt 4 = 4 := by decide +kernel
theorem d_S_gives_67 : dI prog_1_method_11_code 67 (.invokevirtual 67) 3 70 := by decide +kernel
theorem d_S_gives_70 : decode prog_1_method_11_code 70 = .ok (.ireturn, 1) := by decide +kernel
theorem d_S_gives_71 : dI prog_1_method_11_code 71 (.iload_n 2) 1 72 := by decide +kernel
theorem d_S_gives_72 : decode prog_1_method_11_code 72 = .ok (.tableswitch 69 0 2 #[28, 41, 55], 28) := by decide +kernel
theorem d_S_gives_100 : dI prog_1_method_11_code 100 (.aload_n 0) 1 101 := by decide +kernel
theorem d_S_gives_101 : dI prog_1_method_11_code 101 (.getfield 36) 3 104 := by decide +kernel
theorem d_S_gives_104 : dI prog_1_method_11_code 104 (.aload_n 0) 1 105 := by decide +kernel
theorem d_S_gives_105 : dI prog_1_method_11_code 105 (.getfield 26) 3 108 := by decide +kernel
theorem d_S_gives_108 : dI prog_1_method_11_code 108 (.iconst 0) 1 109 ∧ Int32.ofInt 0 = 0 := by decide +kernel
theorem d_S_gives_109 : dI prog_1_method_11_code 109 (.invokevirtual 126) 3 112 := by decide +kernel
theorem d_S_gives_112 : decode prog_1_method_11_code 112 = .ok (.ireturn, 1) := by decide +kernel
theorem d_S_gives_113 : dI prog_1_method_11_code 113 (.aload_n 0) 1 114 := by decide +kernel
theorem d_S_gives_114 : dI prog_1_method_11_code 114 (.getfield 36) 3 117 := by decide +kernel
theorem d_S_gives_117 : dI prog_1_method_11_code 117 (.aload_n 0) 1 118 := by decide +kernel
theorem d_S_gives_118 : dI prog_1_method_11_code 118 (.getfield 26) 3 121 := by decide +kernel
theorem d_S_gives_121 : dI prog_1_method_11_code 121 (.bipush 7) 2 123 ∧ (Int8.ofInt 7).toInt32 = 7 := by decide +kernel
theorem d_S_gives_123 : dI prog_1_method_11_code 123 (.invokevirtual 126) 3 126 := by decide +kernel
theorem d_S_gives_126 : decode prog_1_method_11_code 126 = .ok (.ireturn, 1) := by decide +kernel
theorem d_S_gives_127 : dI prog_1_method_11_code 127 (.aload_n 0) 1 128 := by decide +kernel
theorem d_S_gives_128 : dI prog_1_method_11_code 128 (.getfield 36) 3 131 := by decide +kernel
theorem d_S_gives_131 : dI prog_1_method_11_code 131 (.aload_n 0) 1 132 := by decide +kernel
theorem d_S_gives_132 : dI prog_1_method_11_code 132 (.getfield 26) 3 135 := by decide +kernel
theorem d_S_gives_135 : dI prog_1_method_11_code 135 (.bipush 8) 2 137 ∧ (Int8.ofInt 8).toInt32 = 8 := by decide +kernel
theorem d_S_gives_137 : dI prog_1_method_11_code 137 (.invokevirtual 126) 3 140 := by decide +kernel
theorem d_S_gives_140 : decode prog_1_method_11_code 140 = .ok (.ireturn, 1) := by decide +kernel
theorem d_S_gives_141 : dI prog_1_method_11_code 141 (.aload_n 0) 1 142 := by decide +kernel
theorem d_S_gives_142 : dI prog_1_method_11_code 142 (.getfield 36) 3 145 := by decide +kernel
theorem d_S_gives_145 : dI prog_1_method_11_code 145 (.getfield 71) 3 148 := by decide +kernel
theorem d_S_gives_148 : dI prog_1_method_11_code 148 (.iconst 1) 1 149 ∧ Int32.ofInt 1 = 1 := by decide +kernel
theorem d_S_gives_149 : dI prog_1_method_11_code 149 .iaload 1 150 := by decide +kernel
theorem d_S_gives_150 : decode prog_1_method_11_code 150 = .ok (.ireturn, 1) := by decide +kernel
theorem d_S_lasts_0 : dI prog_1_method_12_code 0 (.iload_n 1) 1 1 := by decide +kernel
theorem d_S_lasts_1 : dI prog_1_method_12_code 1 (.invokestatic 104) 3 4 := by decide +kernel
theorem d_S_lasts_4 : dJ prog_1_method_12_code 4 (.ifCond .ne 9) 9 7 13 := by decide +kernel
theorem d_S_lasts_7 : dI prog_1_method_12_code 7 (.aload_n 0) 1 8 := by decide +kernel
theorem d_S_lasts_8 : dI prog_1_method_12_code 8 (.iconst 0) 1 9 ∧ Int32.ofInt 0 = 0 := by decide +kernel
theorem d_S_lasts_9 : dI prog_1_method_12_code 9 (.invokevirtual 67) 3 12 := by decide +kernel
theorem d_S_lasts_12 : decode prog_1_method_12_code 12 = .ok (.ireturn, 1) := by decide +kernel
theorem d_S_lasts_13 : dI prog_1_method_12_code 13 (.aload_n 0) 1 14 := by decide +kernel
theorem d_S_lasts_14 : dI prog_1_method_12_code 14 (.getfield 10) 3 17 := by decide +kernel
theorem d_S_lasts_17 : dI prog_1_method_12_code 17 (.getfield 107) 3 20 := by decide +kernel
theorem d_S_lasts_20 : dI prog_1_method_12_code 20 (.iload_n 1) 1 21 := by decide +kernel
theorem d_S_lasts_21 : dI prog_1_method_12_code 21 .iaload 1 22 := by decide +kernel
theorem d_S_lasts_22 : dI prog_1_method_12_code 22 (.istore_n 2) 1 23 := by decide +kernel
theorem d_S_lasts_23 : dI prog_1_method_12_code 23 (.iload_n 2) 1 24 := by decide +kernel
theorem d_S_lasts_24 : dI prog_1_method_12_code 24 (.iconst (-1)) 1 25 ∧ Int32.ofInt (-1) = (-1) := by decide +kernel
theorem d_S_lasts_25 : dJ prog_1_method_12_code 25 (.if_icmp .ne 9) 9 28 34 := by decide +kernel
theorem d_S_lasts_28 : dI prog_1_method_12_code 28 (.aload_n 0) 1 29 := by decide +kernel
theorem d_S_lasts_29 : dI prog_1_method_12_code 29 (.iconst 3) 1 30 ∧ Int32.ofInt 3 = 3 := by decide +kernel
theorem d_S_lasts_30 : dI prog_1_method_12_code 30 (.invokevirtual 67) 3 33 := by decide +kernel
theorem d_S_lasts_33 : decode prog_1_method_12_code 33 = .ok (.ireturn, 1) := by decide +kernel
theorem d_S_lasts_34 : dI prog_1_method_12_code 34 (.aload_n 0) 1 35 := by decide +kernel
theorem d_S_lasts_35 : dI prog_1_method_12_code 35 (.getfield 36) 3 38 := by decide +kernel
theorem d_S_lasts_38 : dI prog_1_method_12_code 38 (.aload_n 0) 1 39 := by decide +kernel
theorem d_S_lasts_39 : dI prog_1_method_12_code 39 (.getfield 26) 3 42 := by decide +kernel
theorem d_S_lasts_42 : dI prog_1_method_12_code 42 (.invokevirtual 122) 3 45 := by decide +kernel
theorem d_S_lasts_45 : dI prog_1_method_12_code 45 (.iconst 0) 1 46 ∧ Int32.ofInt 0 = 0 := by decide +kernel
theorem d_S_lasts_46 : dI prog_1_method_12_code 46 (.istore_n 3) 1 47 := by decide +kernel
theorem d_S_lasts_47 : dI prog_1_method_12_code 47 (.iload_n 3) 1 48 := by decide +kernel
theorem d_S_lasts_48 : dI prog_1_method_12_code 48 (.bipush 50) 2 50 ∧ (Int8.ofInt 50).toInt32 = 50 := by decide +kernel
theorem d_S_lasts_50 : dJ prog_1_method_12_code 50 (.if_icmp .ge 20) 20 53 70 := by decide +kernel
theorem d_S_lasts_53 : dI prog_1_method_12_code 53 (.aload_n 0) 1 54 := by decide +kernel
theorem d_S_lasts_54 : dI prog_1_method_12_code 54 (.getfield 36) 3 57 := by decide +kernel
theorem d_S_lasts_57 : dI prog_1_method_12_code 57 (.iload_n 2) 1 58 := by decide +kernel
theorem d_S_lasts_58 : dI prog_1_method_12_code 58 (.invokevirtual 119) 3 61 := by decide +kernel
theorem d_S_lasts_61 : dJ prog_1_method_12_code 61 (.ifCond .eq 9) 9 64 70 := by decide +kernel
theorem d_S_lasts_64 : dI prog_1_method_12_code 64 (.iinc 3 1) 3 67 ∧ Int32.ofInt 1 = 1 := by decide +kernel
theorem d_S_lasts_67 : dJ prog_1_method_12_code 67 (.goto (-20)) (-20) 70 47 := by decide +kernel
theorem d_S_lasts_70 : dI prog_1_method_12_code 70 (.iload_n 3) 1 71 := by decide +kernel
theorem d_S_lasts_71 : decode prog_1_method_12_code 71 = .ok (.ireturn, 1) := by decide +kernel
theorem d_S_out_0 : dI prog_1_method_13_code 0 (.iload_n 1) 1 1 := by decide +kernel
theorem d_S_out_1 : dI prog_1_method_13_code 1 (.invokestatic 104) 3 4 := by decide +kernel
theorem d_S_out_4 : dJ prog_1_method_13_code 4 (.ifCond .ne 9) 9 7 13 := by decide +kernel
theorem d_S_out_7 : dI prog_1_method_13_code 7 (.aload_n 0) 1 8 := by decide +kernel
theorem d_S_out_8 : dI prog_1_method_13_code 8 (.iconst 0) 1 9 ∧ Int32.ofInt 0 = 0 := by decide +kernel
theorem d_S_out_9 : dI prog_1_method_13_code 9 (.invokevirtual 67) 3 12 := by decide +kernel
theorem d_S_out_12 : decode prog_1_method_13_code 12 = .ok (.ireturn, 1) := by decide +kernel
theorem d_S_out_13 : dI prog_1_method_13_code 13 (.aload_n 0) 1 14 := by decide +kernel
theorem d_S_out_14 : dI prog_1_method_13_code 14 (.getfield 10) 3 17 := by decide +kernel
theorem d_S_out_17 : dI prog_1_method_13_code 17 (.getfield 107) 3 20 := by decide +kernel
theorem d_S_out_20 : dI prog_1_method_13_code 20 (.iload_n 1) 1 21 := by decide +kernel
theorem d_S_out_21 : dI prog_1_method_13_code 21 .iaload 1 22 := by decide +kernel
theorem d_S_out_22 : dI prog_1_method_13_code 22 (.istore_n 2) 1 23 := by decide +kernel
theorem d_S_out_23 : dI prog_1_method_13_code 23 (.iload_n 2) 1 24 := by decide +kernel
theorem d_S_out_24 : dI prog_1_method_13_code 24 (.iconst (-1)) 1 25 ∧ Int32.ofInt (-1) = (-1) := by decide +kernel
theorem d_S_out_25 : dJ prog_1_method_13_code 25 (.if_icmp .ne 9) 9 28 34 := by decide +kernel
theorem d_S_out_28 : dI prog_1_method_13_code 28 (.aload_n 0) 1 29 := by decide +kernel
theorem d_S_out_29 : dI prog_1_method_13_code 29 (.iconst 3) 1 30 ∧ Int32.ofInt 3 = 3 := by decide +kernel
theorem d_S_out_30 : dI prog_1_method_13_code 30 (.invokevirtual 67) 3 33 := by decide +kernel
theorem d_S_out_33 : decode prog_1_method_13_code 33 = .ok (.ireturn, 1) := by decide +kernel
theorem d_S_out_34 : dI prog_1_method_13_code 34 (.aload_n 0) 1 35 := by decide +kernel
theorem d_S_out_35 : dI prog_1_method_13_code 35 (.iload_n 2) 1 36 := by decide +kernel
theorem d_S_out_36 : dI prog_1_method_13_code 36 (.bipush 50) 2 38 ∧ (Int8.ofInt 50).toInt32 = 50 := by decide +kernel
theorem d_S_out_38 : dI prog_1_method_13_code 38 (.invokevirtual 130) 3 41 := by decide +kernel
theorem d_S_out_41 : dI prog_1_method_13_code 41 (.istore_n 3) 1 42 := by decide +kernel
theorem d_S_out_42 : dI prog_1_method_13_code 42 (.iload_n 3) 1 43 := by decide +kernel
theorem d_S_out_43 : dJ prog_1_method_13_code 43 (.ifCond .ge 11) 11 46 54 := by decide +kernel
theorem d_S_out_46 : dI prog_1_method_13_code 46 (.aload_n 0) 1 47 := by decide +kernel
theorem d_S_out_47 : dI prog_1_method_13_code 47 (.iconst 3) 1 48 ∧ Int32.ofInt 3 = 3 := by decide +kernel
theorem d_S_out_48 : dI prog_1_method_13_code 48 (.invokevirtual 67) 3 51 := by decide +kernel
theorem d_S_out_51 : dJ prog_1_method_13_code 51 (.goto 4) 4 54 55 := by decide +kernel
theorem d_S_out_54 : dI prog_1_method_13_code 54 (.iload_n 3) 1 55 := by decide +kernel
theorem d_S_out_55 : decode prog_1_method_13_code 55 = .ok (.ireturn, 1) := by decide +kernel
theorem d_S_when_0 : dI prog_1_method_14_code 0 (.iload_n 1) 1 1 := by decide +kernel
theorem d_S_when_1 : dI prog_1_method_14_code 1 (.invokestatic 104) 3 4 := by decide +kernel
theorem d_S_when_4 : dJ prog_1_method_14_code 4 (.ifCond .ne 9) 9 7 13 := by decide +kernel
theorem d_S_when_7 : dI prog_1_method_14_code 7 (.aload_n 0) 1 8 := by decide +kernel
theorem d_S_when_8 : dI prog_1_method_14_code 8 (.iconst 0) 1 9 ∧ Int32.ofInt 0 = 0 := by decide +kernel
theorem d_S_when_9 : dI prog_1_method_14_code 9 (.invokevirtual 67) 3 12 := by decide +kernel
theorem d_S_when_12 : decode prog_1_method_14_code 12 = .ok (.ireturn, 1) := by decide +kernel
theorem d_S_when_13 : dI prog_1_method_14_code 13 (.aload_n 0) 1 14 := by decide +kernel
theorem d_S_when_14 : dI prog_1_method_14_code 14 (.getfield 10) 3 17 := by decide +kernel
theorem d_S_when_17 : dI prog_1_method_14_code 17 (.getfield 107) 3 20 := by decide +kernel
theorem d_S_when_20 : dI prog_1_method_14_code 20 (.iload_n 1) 1 21 := by decide +kernel
theorem d_S_when_21 : dI prog_1_method_14_code 21 .iaload 1 22 := by decide +kernel
theorem d_S_when_22 : dI prog_1_method_14_code 22 (.istore_n 2) 1 23 := by decide +kernel
theorem d_S_when_23 : dI prog_1_method_14_code 23 (.iload_n 2) 1 24 := by decide +kernel
theorem d_S_when_24 : dI prog_1_method_14_code 24 (.iconst (-1)) 1 25 ∧ Int32.ofInt (-1) = (-1) := by decide +kernel
theorem d_S_when_25 : dJ prog_1_method_14_code 25 (.if_icmp .ne 9) 9 28 34 := by decide +kernel
theorem d_S_when_28 : dI prog_1_method_14_code 28 (.aload_n 0) 1 29 := by decide +kernel
theorem d_S_when_29 : dI prog_1_method_14_code 29 (.iconst 3) 1 30 ∧ Int32.ofInt 3 = 3 := by decide +kernel
theorem d_S_when_30 : dI prog_1_method_14_code 30 (.invokevirtual 67) 3 33 := by decide +kernel
theorem d_S_when_33 : decode prog_1_method_14_code 33 = .ok (.ireturn, 1) := by decide +kernel
theorem d_S_when_34 : dI prog_1_method_14_code 34 (.iconst (-1)) 1 35 ∧ Int32.ofInt (-1) = (-1) := by decide +kernel
theorem d_S_when_35 : dI prog_1_method_14_code 35 (.istore_n 3) 1 36 := by decide +kernel
theorem d_S_when_36 : dI prog_1_method_14_code 36 (.iconst 0) 1 37 ∧ Int32.ofInt 0 = 0 := by decide +kernel
theorem d_S_when_37 : dI prog_1_method_14_code 37 (.istore 4) 2 39 := by decide +kernel
theorem d_S_when_39 : dI prog_1_method_14_code 39 (.iconst 0) 1 40 ∧ Int32.ofInt 0 = 0 := by decide +kernel
theorem d_S_when_40 : dI prog_1_method_14_code 40 (.istore 5) 2 42 := by decide +kernel
theorem d_S_when_42 : dI prog_1_method_14_code 42 (.iload 5) 2 44 := by decide +kernel
theorem d_S_when_44 : dI prog_1_method_14_code 44 (.bipush 24) 2 46 ∧ (Int8.ofInt 24).toInt32 = 24 := by decide +kernel
theorem d_S_when_46 : dJ prog_1_method_14_code 46 (.if_icmp .ge 81) 81 49 127 := by decide +kernel
theorem d_S_when_49 : dI prog_1_method_14_code 49 (.aload_n 0) 1 50 := by decide +kernel
theorem d_S_when_50 : dI prog_1_method_14_code 50 (.getfield 36) 3 53 := by decide +kernel
theorem d_S_when_53 : dI prog_1_method_14_code 53 (.aload_n 0) 1 54 := by decide +kernel
theorem d_S_when_54 : dI prog_1_method_14_code 54 (.getfield 26) 3 57 := by decide +kernel
theorem d_S_when_57 : dI prog_1_method_14_code 57 (.invokevirtual 122) 3 60 := by decide +kernel
theorem d_S_when_60 : dI prog_1_method_14_code 60 (.aload_n 0) 1 61 := by decide +kernel
theorem d_S_when_61 : dI prog_1_method_14_code 61 (.getfield 36) 3 64 := by decide +kernel
theorem d_S_when_64 : dI prog_1_method_14_code 64 (.iload 5) 2 66 := by decide +kernel
theorem d_S_when_66 : dI prog_1_method_14_code 66 (.invokevirtual 133) 3 69 := by decide +kernel
theorem d_S_when_69 : dI prog_1_method_14_code 69 (.aload_n 0) 1 70 := by decide +kernel
theorem d_S_when_70 : dI prog_1_method_14_code 70 (.getfield 36) 3 73 := by decide +kernel
theorem d_S_when_73 : dI prog_1_method_14_code 73 (.invokevirtual 84) 3 76 := by decide +kernel
theorem d_S_when_76 : dI prog_1_method_14_code 76 (.istore 6) 2 78 := by decide +kernel
theorem d_S_when_78 : dI prog_1_method_14_code 78 (.aload_n 0) 1 79 := by decide +kernel
theorem d_S_when_79 : dI prog_1_method_14_code 79 (.getfield 36) 3 82 := by decide +kernel
theorem d_S_when_82 : dI prog_1_method_14_code 82 (.iload_n 2) 1 83 := by decide +kernel
theorem d_S_when_83 : dI prog_1_method_14_code 83 (.invokevirtual 119) 3 86 := by decide +kernel
theorem d_S_when_86 : dJ prog_1_method_14_code 86 (.ifCond .eq 35) 35 89 121 := by decide +kernel
theorem d_S_when_89 : dI prog_1_method_14_code 89 (.aload_n 0) 1 90 := by decide +kernel
theorem d_S_when_90 : dI prog_1_method_14_code 90 (.getfield 36) 3 93 := by decide +kernel
theorem d_S_when_93 : dI prog_1_method_14_code 93 (.aload_n 0) 1 94 := by decide +kernel
theorem d_S_when_94 : dI prog_1_method_14_code 94 (.getfield 26) 3 97 := by decide +kernel
theorem d_S_when_97 : dI prog_1_method_14_code 97 (.iconst 0) 1 98 ∧ Int32.ofInt 0 = 0 := by decide +kernel
theorem d_S_when_98 : dI prog_1_method_14_code 98 (.invokevirtual 126) 3 101 := by decide +kernel
theorem d_S_when_101 : dI prog_1_method_14_code 101 (.istore 7) 2 103 := by decide +kernel
theorem d_S_when_103 : dI prog_1_method_14_code 103 (.iload_n 3) 1 104 := by decide +kernel
theorem d_S_when_104 : dJ prog_1_method_14_code 104 (.ifCond .lt 10) 10 107 114 := by decide +kernel
theorem d_S_when_107 : dI prog_1_method_14_code 107 (.iload 7) 2 109 := by decide +kernel
theorem d_S_when_109 : dI prog_1_method_14_code 109 (.iload 4) 2 111 := by decide +kernel
theorem d_S_when_111 : dJ prog_1_method_14_code 111 (.if_icmp .le 10) 10 114 121 := by decide +kernel
theorem d_S_when_114 : dI prog_1_method_14_code 114 (.iload 6) 2 116 := by decide +kernel
theorem d_S_when_116 : dI prog_1_method_14_code 116 (.istore_n 3) 1 117 := by decide +kernel
theorem d_S_when_117 : dI prog_1_method_14_code 117 (.iload 7) 2 119 := by decide +kernel
theorem d_S_when_119 : dI prog_1_method_14_code 119 (.istore 4) 2 121 := by decide +kernel
theorem d_S_when_121 : dI prog_1_method_14_code 121 (.iinc 5 1) 3 124 ∧ Int32.ofInt 1 = 1 := by decide +kernel
theorem d_S_when_124 : dJ prog_1_method_14_code 124 (.goto (-82)) (-82) 127 42 := by decide +kernel
theorem d_S_when_127 : dI prog_1_method_14_code 127 (.iload_n 3) 1 128 := by decide +kernel
theorem d_S_when_128 : dJ prog_1_method_14_code 128 (.ifCond .ge 11) 11 131 139 := by decide +kernel
theorem d_S_when_131 : dI prog_1_method_14_code 131 (.aload_n 0) 1 132 := by decide +kernel
theorem d_S_when_132 : dI prog_1_method_14_code 132 (.iconst 3) 1 133 ∧ Int32.ofInt 3 = 3 := by decide +kernel
theorem d_S_when_133 : dI prog_1_method_14_code 133 (.invokevirtual 67) 3 136 := by decide +kernel
theorem d_S_when_136 : dJ prog_1_method_14_code 136 (.goto 4) 4 139 140 := by decide +kernel
theorem d_S_when_139 : dI prog_1_method_14_code 139 (.iload_n 3) 1 140 := by decide +kernel
theorem d_S_when_140 : decode prog_1_method_14_code 140 = .ok (.ireturn, 1) := by decide +kernel
theorem d_S_feed_0 : dI prog_1_method_15_code 0 (.iload_n 2) 1 1 := by decide +kernel
theorem d_S_feed_1 : dI prog_1_method_15_code 1 (.iconst 1) 1 2 ∧ Int32.ofInt 1 = 1 := by decide +kernel
theorem d_S_feed_2 : dJ prog_1_method_15_code 2 (.if_icmp .lt 8) 8 5 10 := by decide +kernel
theorem d_S_feed_5 : dI prog_1_method_15_code 5 (.iload_n 2) 1 6 := by decide +kernel
theorem d_S_feed_6 : dI prog_1_method_15_code 6 (.iconst 4) 1 7 ∧ Int32.ofInt 4 = 4 := by decide +kernel
theorem d_S_feed_7 : dJ prog_1_method_15_code 7 (.if_icmp .le 9) 9 10 16 := by decide +kernel
theorem d_S_feed_10 : dI prog_1_method_15_code 10 (.aload_n 0) 1 11 := by decide +kernel
theorem d_S_feed_11 : dI prog_1_method_15_code 11 (.iconst 0) 1 12 ∧ Int32.ofInt 0 = 0 := by decide +kernel
theorem d_S_feed_12 : dI prog_1_method_15_code 12 (.invokevirtual 67) 3 15 := by decide +kernel
theorem d_S_feed_15 : decode prog_1_method_15_code 15 = .ok (.ireturn, 1) := by decide +kernel
theorem d_S_feed_16 : dI prog_1_method_15_code 16 (.aload_n 0) 1 17 := by decide +kernel
theorem d_S_feed_17 : dI prog_1_method_15_code 17 (.getfield 49) 3 20 := by decide +kernel
theorem d_S_feed_20 : dI prog_1_method_15_code 20 (.getfield 137) 3 23 := by decide +kernel
theorem d_S_feed_23 : dI prog_1_method_15_code 23 (.iload_n 2) 1 24 := by decide +kernel
theorem d_S_feed_24 : dI prog_1_method_15_code 24 .iadd 1 25 := by decide +kernel
theorem d_S_feed_25 : dI prog_1_method_15_code 25 (.bipush 120) 2 27 ∧ (Int8.ofInt 120).toInt32 = 120 := by decide +kernel
theorem d_S_feed_27 : dJ prog_1_method_15_code 27 (.if_icmp .le 9) 9 30 36 := by decide +kernel
theorem d_S_feed_30 : dI prog_1_method_15_code 30 (.aload_n 0) 1 31 := by decide +kernel
theorem d_S_feed_31 : dI prog_1_method_15_code 31 (.iconst 1) 1 32 ∧ Int32.ofInt 1 = 1 := by decide +kernel
theorem d_S_feed_32 : dI prog_1_method_15_code 32 (.invokevirtual 67) 3 35 := by decide +kernel
theorem d_S_feed_35 : decode prog_1_method_15_code 35 = .ok (.ireturn, 1) := by decide +kernel
theorem d_S_feed_36 : dI prog_1_method_15_code 36 (.iload_n 2) 1 37 := by decide +kernel
theorem d_S_feed_37 : dI prog_1_method_15_code 37 (.iconst 1) 1 38 ∧ Int32.ofInt 1 = 1 := by decide +kernel
theorem d_S_feed_38 : dI prog_1_method_15_code 38 .isub 1 39 := by decide +kernel
theorem d_S_feed_39 : dI prog_1_method_15_code 39 (.istore_n 3) 1 40 := by decide +kernel
theorem d_S_feed_40 : dI prog_1_method_15_code 40 (.iload_n 3) 1 41 := by decide +kernel
theorem d_S_feed_41 : dJ prog_1_method_15_code 41 (.ifCond .lt 26) 26 44 67 := by decide +kernel
theorem d_S_feed_44 : dI prog_1_method_15_code 44 (.aload_n 0) 1 45 := by decide +kernel
theorem d_S_feed_45 : dI prog_1_method_15_code 45 (.getfield 49) 3 48 := by decide +kernel
theorem d_S_feed_48 : dI prog_1_method_15_code 48 (.iload_n 1) 1 49 := by decide +kernel
theorem d_S_feed_49 : dI prog_1_method_15_code 49 (.bipush 8) 2 51 ∧ (Int8.ofInt 8).toInt32 = 8 := by decide +kernel
theorem d_S_feed_51 : dI prog_1_method_15_code 51 (.iload_n 3) 1 52 := by decide +kernel
theorem d_S_feed_52 : dI prog_1_method_15_code 52 .imul 1 53 := by decide +kernel
theorem d_S_feed_53 : dI prog_1_method_15_code 53 .iushr 1 54 := by decide +kernel
theorem d_S_feed_54 : dI prog_1_method_15_code 54 (.sipush 255) 3 57 ∧ (Int16.ofInt 255).toInt32 = 255 := by decide +kernel
theorem d_S_feed_57 : dI prog_1_method_15_code 57 .iand 1 58 := by decide +kernel
theorem d_S_feed_58 : dI prog_1_method_15_code 58 (.invokevirtual 141) 3 61 := by decide +kernel
theorem d_S_feed_61 : dI prog_1_method_15_code 61 (.iinc 3 (-1)) 3 64 ∧ Int32.ofInt (-1) = (-1) := by decide +kernel
theorem d_S_feed_64 : dJ prog_1_method_15_code 64 (.goto (-24)) (-24) 67 40 := by decide +kernel
theorem d_S_feed_67 : dI prog_1_method_15_code 67 (.aload_n 0) 1 68 := by decide +kernel
theorem d_S_feed_68 : dI prog_1_method_15_code 68 (.getfield 49) 3 71 := by decide +kernel
theorem d_S_feed_71 : dI prog_1_method_15_code 71 (.getfield 137) 3 74 := by decide +kernel
theorem d_S_feed_74 : decode prog_1_method_15_code 74 = .ok (.ireturn, 1) := by decide +kernel
theorem d_S_wipe_0 : dI prog_1_method_16_code 0 (.aload_n 0) 1 1 := by decide +kernel
theorem d_S_wipe_1 : dI prog_1_method_16_code 1 (.getfield 49) 3 4 := by decide +kernel
theorem d_S_wipe_4 : dI prog_1_method_16_code 4 (.getfield 137) 3 7 := by decide +kernel
theorem d_S_wipe_7 : dI prog_1_method_16_code 7 (.istore_n 1) 1 8 := by decide +kernel
theorem d_S_wipe_8 : dI prog_1_method_16_code 8 (.aload_n 0) 1 9 := by decide +kernel
theorem d_S_wipe_9 : dI prog_1_method_16_code 9 (.getfield 49) 3 12 := by decide +kernel
theorem d_S_wipe_12 : dI prog_1_method_16_code 12 (.iconst 0) 1 13 ∧ Int32.ofInt 0 = 0 := by decide +kernel
theorem d_S_wipe_13 : dI prog_1_method_16_code 13 (.putfield 137) 3 16 := by decide +kernel
theorem d_S_wipe_16 : dI prog_1_method_16_code 16 (.iload_n 1) 1 17 := by decide +kernel
theorem d_S_wipe_17 : decode prog_1_method_16_code 17 = .ok (.ireturn, 1) := by decide +kernel
theorem d_S_text_0 : dI prog_1_method_17_code 0 (.aload_n 0) 1 1 := by decide +kernel
theorem d_S_text_1 : dI prog_1_method_17_code 1 (.getfield 19) 3 4 := by decide +kernel
theorem d_S_text_4 : dI prog_1_method_17_code 4 (.aload_n 0) 1 5 := by decide +kernel
theorem d_S_text_5 : dI prog_1_method_17_code 5 (.getfield 10) 3 8 := by decide +kernel
theorem d_S_text_8 : dI prog_1_method_17_code 8 (.invokevirtual 144) 3 11 := by decide +kernel
theorem d_S_text_11 : dI prog_1_method_17_code 11 (.aload_n 0) 1 12 := by decide +kernel
theorem d_S_text_12 : dI prog_1_method_17_code 12 (.getfield 49) 3 15 := by decide +kernel
theorem d_S_text_15 : dI prog_1_method_17_code 15 (.aload_n 0) 1 16 := by decide +kernel
theorem d_S_text_16 : dI prog_1_method_17_code 16 (.getfield 19) 3 19 := by decide +kernel
theorem d_S_text_19 : dI prog_1_method_17_code 19 (.invokevirtual 147) 3 22 := by decide +kernel
theorem d_S_text_22 : dI prog_1_method_17_code 22 (.istore_n 1) 1 23 := by decide +kernel
theorem d_S_text_23 : dI prog_1_method_17_code 23 (.aload_n 0) 1 24 := by decide +kernel
theorem d_S_text_24 : dI prog_1_method_17_code 24 (.getfield 49) 3 27 := by decide +kernel
theorem d_S_text_27 : dI prog_1_method_17_code 27 (.iconst 0) 1 28 ∧ Int32.ofInt 0 = 0 := by decide +kernel
theorem d_S_text_28 : dI prog_1_method_17_code 28 (.putfield 137) 3 31 := by decide +kernel
theorem d_S_text_31 : dI prog_1_method_17_code 31 (.iload_n 1) 1 32 := by decide +kernel
theorem d_S_text_32 : dJ prog_1_method_17_code 32 (.ifCond .lt 7) 7 35 39 := by decide +kernel
theorem d_S_text_35 : dI prog_1_method_17_code 35 (.iconst (-1)) 1 36 ∧ Int32.ofInt (-1) = (-1) := by decide +kernel
theorem d_S_text_36 : dI prog_1_method_17_code 36 (.iload_n 1) 1 37 := by decide +kernel
theorem d_S_text_37 : dI prog_1_method_17_code 37 .isub 1 38 := by decide +kernel
theorem d_S_text_38 : decode prog_1_method_17_code 38 = .ok (.ireturn, 1) := by decide +kernel
theorem d_S_text_39 : dI prog_1_method_17_code 39 (.aload_n 0) 1 40 := by decide +kernel
theorem d_S_text_40 : dI prog_1_method_17_code 40 (.getfield 10) 3 43 := by decide +kernel
theorem d_S_text_43 : dI prog_1_method_17_code 43 (.aload_n 0) 1 44 := by decide +kernel
theorem d_S_text_44 : dI prog_1_method_17_code 44 (.getfield 19) 3 47 := by decide +kernel
theorem d_S_text_47 : dI prog_1_method_17_code 47 (.invokevirtual 144) 3 50 := by decide +kernel
theorem d_S_text_50 : dI prog_1_method_17_code 50 (.aload_n 0) 1 51 := by decide +kernel
theorem d_S_text_51 : dI prog_1_method_17_code 51 (.getfield 10) 3 54 := by decide +kernel
theorem d_S_text_54 : dI prog_1_method_17_code 54 (.getfield 151) 3 57 := by decide +kernel
theorem d_S_text_57 : decode prog_1_method_17_code 57 = .ok (.ireturn, 1) := by decide +kernel
theorem d_S_planOf_0 : dI prog_1_method_18_code 0 (.iload_n 1) 1 1 := by decide +kernel
theorem d_S_planOf_1 : dJ prog_1_method_18_code 1 (.ifCond .lt 20) 20 4 21 := by decide +kernel
theorem d_S_planOf_4 : dI prog_1_method_18_code 4 (.iload_n 1) 1 5 := by decide +kernel
theorem d_S_planOf_5 : dI prog_1_method_18_code 5 (.aload_n 0) 1 6 := by decide +kernel
theorem d_S_planOf_6 : dI prog_1_method_18_code 6 (.getfield 10) 3 9 := by decide +kernel
theorem d_S_planOf_9 : dI prog_1_method_18_code 9 (.getfield 151) 3 12 := by decide +kernel
theorem d_S_planOf_12 : dJ prog_1_method_18_code 12 (.if_icmp .ge 9) 9 15 21 := by decide +kernel
theorem d_S_planOf_15 : dI prog_1_method_18_code 15 (.iload_n 1) 1 16 := by decide +kernel
theorem d_S_planOf_16 : dI prog_1_method_18_code 16 (.bipush 20) 2 18 ∧ (Int8.ofInt 20).toInt32 = 20 := by decide +kernel
theorem d_S_planOf_18 : dJ prog_1_method_18_code 18 (.if_icmp .lt 9) 9 21 27 := by decide +kernel
theorem d_S_planOf_21 : dI prog_1_method_18_code 21 (.aload_n 0) 1 22 := by decide +kernel
theorem d_S_planOf_22 : dI prog_1_method_18_code 22 (.iconst 0) 1 23 ∧ Int32.ofInt 0 = 0 := by decide +kernel
theorem d_S_planOf_23 : dI prog_1_method_18_code 23 (.invokevirtual 67) 3 26 := by decide +kernel
theorem d_S_planOf_26 : decode prog_1_method_18_code 26 = .ok (.ireturn, 1) := by decide +kernel
theorem d_S_planOf_27 : dI prog_1_method_18_code 27 (.aload_n 0) 1 28 := by decide +kernel
theorem d_S_planOf_28 : dI prog_1_method_18_code 28 (.getfield 10) 3 31 := by decide +kernel
theorem d_S_planOf_31 : dI prog_1_method_18_code 31 (.getfield 154) 3 34 := by decide +kernel
theorem d_S_planOf_34 : dI prog_1_method_18_code 34 (.iload_n 1) 1 35 := by decide +kernel
theorem d_S_planOf_35 : dI prog_1_method_18_code 35 .iaload 1 36 := by decide +kernel
theorem d_S_planOf_36 : decode prog_1_method_18_code 36 = .ok (.ireturn, 1) := by decide +kernel
theorem d_S_clear_0 : dI prog_1_method_19_code 0 (.aload_n 0) 1 1 := by decide +kernel
theorem d_S_clear_1 : dI prog_1_method_19_code 1 (.getfield 10) 3 4 := by decide +kernel
theorem d_S_clear_4 : dI prog_1_method_19_code 4 (.getfield 151) 3 7 := by decide +kernel
theorem d_S_clear_7 : dI prog_1_method_19_code 7 (.istore_n 1) 1 8 := by decide +kernel
theorem d_S_clear_8 : dI prog_1_method_19_code 8 (.aload_n 0) 1 9 := by decide +kernel
theorem d_S_clear_9 : dI prog_1_method_19_code 9 (.getfield 10) 3 12 := by decide +kernel
theorem d_S_clear_12 : dI prog_1_method_19_code 12 (.iconst 0) 1 13 ∧ Int32.ofInt 0 = 0 := by decide +kernel
theorem d_S_clear_13 : dI prog_1_method_19_code 13 (.putfield 151) 3 16 := by decide +kernel
theorem d_S_clear_16 : dI prog_1_method_19_code 16 (.iload_n 1) 1 17 := by decide +kernel
theorem d_S_clear_17 : decode prog_1_method_19_code 17 = .ok (.ireturn, 1) := by decide +kernel
theorem d_S_follow_0 : dI prog_1_method_20_code 0 (.aload_n 0) 1 1 := by decide +kernel
theorem d_S_follow_1 : dI prog_1_method_20_code 1 (.getfield 10) 3 4 := by decide +kernel
theorem d_S_follow_4 : dI prog_1_method_20_code 4 (.aload_n 0) 1 5 := by decide +kernel
theorem d_S_follow_5 : dI prog_1_method_20_code 5 (.getfield 26) 3 8 := by decide +kernel
theorem d_S_follow_8 : dI prog_1_method_20_code 8 (.invokevirtual 157) 3 11 := by decide +kernel
theorem d_S_follow_11 : decode prog_1_method_20_code 11 = .ok (.ireturn, 1) := by decide +kernel
theorem d_S_plans_0 : dI prog_1_method_21_code 0 (.iload_n 1) 1 1 := by decide +kernel
theorem d_S_plans_1 : dJ prog_1_method_21_code 1 (.ifCond .lt 8) 8 4 9 := by decide +kernel
theorem d_S_plans_4 : dI prog_1_method_21_code 4 (.iload_n 1) 1 5 := by decide +kernel
theorem d_S_plans_5 : dI prog_1_method_21_code 5 (.iconst 3) 1 6 ∧ Int32.ofInt 3 = 3 := by decide +kernel
theorem d_S_plans_6 : dJ prog_1_method_21_code 6 (.if_icmp .le 9) 9 9 15 := by decide +kernel
theorem d_S_plans_9 : dI prog_1_method_21_code 9 (.aload_n 0) 1 10 := by decide +kernel
theorem d_S_plans_10 : dI prog_1_method_21_code 10 (.iconst 0) 1 11 ∧ Int32.ofInt 0 = 0 := by decide +kernel
theorem d_S_plans_11 : dI prog_1_method_21_code 11 (.invokevirtual 67) 3 14 := by decide +kernel
theorem d_S_plans_14 : decode prog_1_method_21_code 14 = .ok (.ireturn, 1) := by decide +kernel
theorem d_S_plans_15 : dI prog_1_method_21_code 15 (.aload_n 0) 1 16 := by decide +kernel
theorem d_S_plans_16 : dI prog_1_method_21_code 16 (.getfield 36) 3 19 := by decide +kernel
theorem d_S_plans_19 : dI prog_1_method_21_code 19 (.aload_n 0) 1 20 := by decide +kernel
theorem d_S_plans_20 : dI prog_1_method_21_code 20 (.getfield 26) 3 23 := by decide +kernel
theorem d_S_plans_23 : dI prog_1_method_21_code 23 (.invokevirtual 122) 3 26 := by decide +kernel
theorem d_S_plans_26 : dI prog_1_method_21_code 26 (.aload_n 0) 1 27 := by decide +kernel
theorem d_S_plans_27 : dI prog_1_method_21_code 27 (.getfield 10) 3 30 := by decide +kernel
theorem d_S_plans_30 : dI prog_1_method_21_code 30 (.aload_n 0) 1 31 := by decide +kernel
theorem d_S_plans_31 : dI prog_1_method_21_code 31 (.getfield 36) 3 34 := by decide +kernel
theorem d_S_plans_34 : dI prog_1_method_21_code 34 (.invokevirtual 157) 3 37 := by decide +kernel
theorem d_S_plans_37 : dI prog_1_method_21_code 37 (.istore_n 2) 1 38 := by decide +kernel
theorem d_S_plans_38 : dI prog_1_method_21_code 38 (.iload_n 1) 1 39 := by decide +kernel
theorem d_S_plans_39 : decode prog_1_method_21_code 39 = .ok (.tableswitch 54 0 2 #[25, 27, 40], 25) := by decide +kernel
theorem d_S_plans_64 : dI prog_1_method_21_code 64 (.iload_n 2) 1 65 := by decide +kernel
theorem d_S_plans_65 : decode prog_1_method_21_code 65 = .ok (.ireturn, 1) := by decide +kernel
theorem d_S_plans_66 : dI prog_1_method_21_code 66 (.aload_n 0) 1 67 := by decide +kernel
theorem d_S_plans_67 : dI prog_1_method_21_code 67 (.getfield 36) 3 70 := by decide +kernel
theorem d_S_plans_70 : dI prog_1_method_21_code 70 (.aload_n 0) 1 71 := by decide +kernel
theorem d_S_plans_71 : dI prog_1_method_21_code 71 (.getfield 26) 3 74 := by decide +kernel
theorem d_S_plans_74 : dI prog_1_method_21_code 74 (.iconst 0) 1 75 ∧ Int32.ofInt 0 = 0 := by decide +kernel
theorem d_S_plans_75 : dI prog_1_method_21_code 75 (.invokevirtual 126) 3 78 := by decide +kernel
theorem d_S_plans_78 : decode prog_1_method_21_code 78 = .ok (.ireturn, 1) := by decide +kernel
theorem d_S_plans_79 : dI prog_1_method_21_code 79 (.aload_n 0) 1 80 := by decide +kernel
theorem d_S_plans_80 : dI prog_1_method_21_code 80 (.getfield 36) 3 83 := by decide +kernel
theorem d_S_plans_83 : dI prog_1_method_21_code 83 (.aload_n 0) 1 84 := by decide +kernel
theorem d_S_plans_84 : dI prog_1_method_21_code 84 (.getfield 26) 3 87 := by decide +kernel
theorem d_S_plans_87 : dI prog_1_method_21_code 87 (.bipush 8) 2 89 ∧ (Int8.ofInt 8).toInt32 = 8 := by decide +kernel
theorem d_S_plans_89 : dI prog_1_method_21_code 89 (.invokevirtual 126) 3 92 := by decide +kernel
theorem d_S_plans_92 : decode prog_1_method_21_code 92 = .ok (.ireturn, 1) := by decide +kernel
theorem d_S_plans_93 : dI prog_1_method_21_code 93 (.aload_n 0) 1 94 := by decide +kernel
theorem d_S_plans_94 : dI prog_1_method_21_code 94 (.getfield 36) 3 97 := by decide +kernel
theorem d_S_plans_97 : dI prog_1_method_21_code 97 (.aload_n 0) 1 98 := by decide +kernel
theorem d_S_plans_98 : dI prog_1_method_21_code 98 (.getfield 26) 3 101 := by decide +kernel
theorem d_S_plans_101 : dI prog_1_method_21_code 101 (.bipush 7) 2 103 ∧ (Int8.ofInt 7).toInt32 = 7 := by decide +kernel
theorem d_S_plans_103 : dI prog_1_method_21_code 103 (.invokevirtual 126) 3 106 := by decide +kernel
theorem d_S_plans_106 : decode prog_1_method_21_code 106 = .ok (.ireturn, 1) := by decide +kernel
theorem d_S_best_0 : dI prog_1_method_22_code 0 (.iload_n 1) 1 1 := by decide +kernel
theorem d_S_best_1 : dI prog_1_method_22_code 1 (.iconst 1) 1 2 ∧ Int32.ofInt 1 = 1 := by decide +kernel
theorem d_S_best_2 : dJ prog_1_method_22_code 2 (.if_icmp .lt 17) 17 5 19 := by decide +kernel
theorem d_S_best_5 : dI prog_1_method_22_code 5 (.iload_n 1) 1 6 := by decide +kernel
theorem d_S_best_6 : dI prog_1_method_22_code 6 (.iconst 3) 1 7 ∧ Int32.ofInt 3 = 3 := by decide +kernel
theorem d_S_best_7 : dJ prog_1_method_22_code 7 (.if_icmp .gt 12) 12 10 19 := by decide +kernel
theorem d_S_best_10 : dI prog_1_method_22_code 10 (.iload_n 2) 1 11 := by decide +kernel
theorem d_S_best_11 : dJ prog_1_method_22_code 11 (.ifCond .lt 8) 8 14 19 := by decide +kernel
theorem d_S_best_14 : dI prog_1_method_22_code 14 (.iload_n 2) 1 15 := by decide +kernel
theorem d_S_best_15 : dI prog_1_method_22_code 15 (.iconst 2) 1 16 ∧ Int32.ofInt 2 = 2 := by decide +kernel
theorem d_S_best_16 : dJ prog_1_method_22_code 16 (.if_icmp .le 9) 9 19 25 := by decide +kernel
theorem d_S_best_19 : dI prog_1_method_22_code 19 (.aload_n 0) 1 20 := by decide +kernel
theorem d_S_best_20 : dI prog_1_method_22_code 20 (.iconst 0) 1 21 ∧ Int32.ofInt 0 = 0 := by decide +kernel
theorem d_S_best_21 : dI prog_1_method_22_code 21 (.invokevirtual 67) 3 24 := by decide +kernel
theorem d_S_best_24 : decode prog_1_method_22_code 24 = .ok (.ireturn, 1) := by decide +kernel
theorem d_S_best_25 : dI prog_1_method_22_code 25 (.aload_n 0) 1 26 := by decide +kernel
theorem d_S_best_26 : dI prog_1_method_22_code 26 (.getfield 42) 3 29 := by decide +kernel
theorem d_S_best_29 : dI prog_1_method_22_code 29 (.aload_n 0) 1 30 := by decide +kernel
theorem d_S_best_30 : dI prog_1_method_22_code 30 (.getfield 26) 3 33 := by decide +kernel
theorem d_S_best_33 : dI prog_1_method_22_code 33 (.invokevirtual 161) 3 36 := by decide +kernel
theorem d_S_best_36 : dI prog_1_method_22_code 36 (.aload_n 0) 1 37 := by decide +kernel
theorem d_S_best_37 : dI prog_1_method_22_code 37 (.getfield 42) 3 40 := by decide +kernel
theorem d_S_best_40 : dI prog_1_method_22_code 40 (.iconst 0) 1 41 ∧ Int32.ofInt 0 = 0 := by decide +kernel
theorem d_S_best_41 : dI prog_1_method_22_code 41 (.iload_n 1) 1 42 := by decide +kernel
theorem d_S_best_42 : dI prog_1_method_22_code 42 (.iconst 0) 1 43 ∧ Int32.ofInt 0 = 0 := by decide +kernel
theorem d_S_best_43 : dI prog_1_method_22_code 43 (.invokestatic 164) 3 46 := by decide +kernel
theorem d_S_best_46 : dI prog_1_method_22_code 46 (.aload_n 0) 1 47 := by decide +kernel
theorem d_S_best_47 : dI prog_1_method_22_code 47 (.getfield 42) 3 50 := by decide +kernel
theorem d_S_best_50 : dI prog_1_method_22_code 50 (.getfield 168) 3 53 := by decide +kernel
theorem d_S_best_53 : dJ prog_1_method_22_code 53 (.ifCond .ne 9) 9 56 62 := by decide +kernel
theorem d_S_best_56 : dI prog_1_method_22_code 56 (.aload_n 0) 1 57 := by decide +kernel
theorem d_S_best_57 : dI prog_1_method_22_code 57 (.iconst 3) 1 58 ∧ Int32.ofInt 3 = 3 := by decide +kernel
theorem d_S_best_58 : dI prog_1_method_22_code 58 (.invokevirtual 67) 3 61 := by decide +kernel
theorem d_S_best_61 : decode prog_1_method_22_code 61 = .ok (.ireturn, 1) := by decide +kernel
theorem d_S_best_62 : dI prog_1_method_22_code 62 (.iload_n 2) 1 63 := by decide +kernel
theorem d_S_best_63 : decode prog_1_method_22_code 63 = .ok (.lookupswitch 41 #[(0, 25), (1, 33)], 25) := by decide +kernel
theorem d_S_best_88 : dI prog_1_method_22_code 88 (.aload_n 0) 1 89 := by decide +kernel
theorem d_S_best_89 : dI prog_1_method_22_code 89 (.getfield 42) 3 92 := by decide +kernel
theorem d_S_best_92 : dI prog_1_method_22_code 92 (.getfield 172) 3 95 := by decide +kernel
theorem d_S_best_95 : decode prog_1_method_22_code 95 = .ok (.ireturn, 1) := by decide +kernel
theorem d_S_best_96 : dI prog_1_method_22_code 96 (.aload_n 0) 1 97 := by decide +kernel
theorem d_S_best_97 : dI prog_1_method_22_code 97 (.getfield 42) 3 100 := by decide +kernel
theorem d_S_best_100 : dI prog_1_method_22_code 100 (.getfield 175) 3 103 := by decide +kernel
theorem d_S_best_103 : decode prog_1_method_22_code 103 = .ok (.ireturn, 1) := by decide +kernel
theorem d_S_best_104 : dI prog_1_method_22_code 104 (.aload_n 0) 1 105 := by decide +kernel
theorem d_S_best_105 : dI prog_1_method_22_code 105 (.getfield 42) 3 108 := by decide +kernel
theorem d_S_best_108 : dI prog_1_method_22_code 108 (.getfield 178) 3 111 := by decide +kernel
theorem d_S_best_111 : decode prog_1_method_22_code 111 = .ok (.ireturn, 1) := by decide +kernel
theorem d_S_airFor_0 : dI prog_1_method_23_code 0 (.iload_n 1) 1 1 := by decide +kernel
theorem d_S_airFor_1 : dI prog_1_method_23_code 1 (.invokestatic 63) 3 4 := by decide +kernel
theorem d_S_airFor_4 : dJ prog_1_method_23_code 4 (.ifCond .ne 9) 9 7 13 := by decide +kernel
theorem d_S_airFor_7 : dI prog_1_method_23_code 7 (.aload_n 0) 1 8 := by decide +kernel
theorem d_S_airFor_8 : dI prog_1_method_23_code 8 (.iconst 0) 1 9 ∧ Int32.ofInt 0 = 0 := by decide +kernel
theorem d_S_airFor_9 : dI prog_1_method_23_code 9 (.invokevirtual 67) 3 12 := by decide +kernel
theorem d_S_airFor_12 : decode prog_1_method_23_code 12 = .ok (.ireturn, 1) := by decide +kernel
theorem d_S_airFor_13 : dI prog_1_method_23_code 13 (.iconst 0) 1 14 ∧ Int32.ofInt 0 = 0 := by decide +kernel
theorem d_S_airFor_14 : dI prog_1_method_23_code 14 (.istore_n 2) 1 15 := by decide +kernel
theorem d_S_airFor_15 : dI prog_1_method_23_code 15 (.iload_n 2) 1 16 := by decide +kernel
theorem d_S_airFor_16 : dI prog_1_method_23_code 16 (.bipush 9) 2 18 ∧ (Int8.ofInt 9).toInt32 = 9 := by decide +kernel
theorem d_S_airFor_18 : dJ prog_1_method_23_code 18 (.if_icmp .gt 38) 38 21 56 := by decide +kernel
theorem d_S_airFor_21 : dI prog_1_method_23_code 21 (.aload_n 0) 1 22 := by decide +kernel
theorem d_S_airFor_22 : dI prog_1_method_23_code 22 (.getfield 26) 3 25 := by decide +kernel
theorem d_S_airFor_25 : dI prog_1_method_23_code 25 (.aload_n 0) 1 26 := by decide +kernel
theorem d_S_airFor_26 : dI prog_1_method_23_code 26 (.getfield 10) 3 29 := by decide +kernel
theorem d_S_airFor_29 : dI prog_1_method_23_code 29 (.getfield 29) 3 32 := by decide +kernel
theorem d_S_airFor_32 : dI prog_1_method_23_code 32 (.iload_n 1) 1 33 := by decide +kernel
theorem d_S_airFor_33 : dI prog_1_method_23_code 33 .iaload 1 34 := by decide +kernel
theorem d_S_airFor_34 : dI prog_1_method_23_code 34 (.iload_n 2) 1 35 := by decide +kernel
theorem d_S_airFor_35 : dI prog_1_method_23_code 35 (.invokevirtual 74) 3 38 := by decide +kernel
theorem d_S_airFor_38 : dI prog_1_method_23_code 38 (.aload_n 0) 1 39 := by decide +kernel
theorem d_S_airFor_39 : dI prog_1_method_23_code 39 (.getfield 26) 3 42 := by decide +kernel
theorem d_S_airFor_42 : dI prog_1_method_23_code 42 (.invokevirtual 91) 3 45 := by decide +kernel
theorem d_S_airFor_45 : dJ prog_1_method_23_code 45 (.if_icmp .lt 5) 5 48 50 := by decide +kernel
theorem d_S_airFor_48 : dI prog_1_method_23_code 48 (.iload_n 2) 1 49 := by decide +kernel
theorem d_S_airFor_49 : decode prog_1_method_23_code 49 = .ok (.ireturn, 1) := by decide +kernel
theorem d_S_airFor_50 : dI prog_1_method_23_code 50 (.iinc 2 1) 3 53 ∧ Int32.ofInt 1 = 1 := by decide +kernel
theorem d_S_airFor_53 : dJ prog_1_method_23_code 53 (.goto (-38)) (-38) 56 15 := by decide +kernel
theorem d_S_airFor_56 : dI prog_1_method_23_code 56 (.aload_n 0) 1 57 := by decide +kernel
theorem d_S_airFor_57 : dI prog_1_method_23_code 57 (.iconst 3) 1 58 ∧ Int32.ofInt 3 = 3 := by decide +kernel
theorem d_S_airFor_58 : dI prog_1_method_23_code 58 (.invokevirtual 67) 3 61 := by decide +kernel
theorem d_S_airFor_61 : decode prog_1_method_23_code 61 = .ok (.ireturn, 1) := by decide +kernel
theorem d_S_sacksFor_0 : dI prog_1_method_24_code 0 (.iload_n 1) 1 1 := by decide +kernel
theorem d_S_sacksFor_1 : dI prog_1_method_24_code 1 (.invokestatic 63) 3 4 := by decide +kernel
theorem d_S_sacksFor_4 : dJ prog_1_method_24_code 4 (.ifCond .ne 9) 9 7 13 := by decide +kernel
theorem d_S_sacksFor_7 : dI prog_1_method_24_code 7 (.aload_n 0) 1 8 := by decide +kernel
theorem d_S_sacksFor_8 : dI prog_1_method_24_code 8 (.iconst 0) 1 9 ∧ Int32.ofInt 0 = 0 := by decide +kernel
theorem d_S_sacksFor_9 : dI prog_1_method_24_code 9 (.invokevirtual 67) 3 12 := by decide +kernel
theorem d_S_sacksFor_12 : decode prog_1_method_24_code 12 = .ok (.ireturn, 1) := by decide +kernel
theorem d_S_sacksFor_13 : dI prog_1_method_24_code 13 (.aload_n 0) 1 14 := by decide +kernel
theorem d_S_sacksFor_14 : dI prog_1_method_24_code 14 (.getfield 26) 3 17 := by decide +kernel
theorem d_S_sacksFor_17 : dI prog_1_method_24_code 17 (.aload_n 0) 1 18 := by decide +kernel
theorem d_S_sacksFor_18 : dI prog_1_method_24_code 18 (.getfield 10) 3 21 := by decide +kernel
theorem d_S_sacksFor_21 : dI prog_1_method_24_code 21 (.getfield 29) 3 24 := by decide +kernel
theorem d_S_sacksFor_24 : dI prog_1_method_24_code 24 (.iload_n 1) 1 25 := by decide +kernel
theorem d_S_sacksFor_25 : dI prog_1_method_24_code 25 .iaload 1 26 := by decide +kernel
theorem d_S_sacksFor_26 : dI prog_1_method_24_code 26 (.aload_n 0) 1 27 := by decide +kernel
theorem d_S_sacksFor_27 : dI prog_1_method_24_code 27 (.getfield 26) 3 30 := by decide +kernel
theorem d_S_sacksFor_30 : dI prog_1_method_24_code 30 (.getfield 71) 3 33 := by decide +kernel
theorem d_S_sacksFor_33 : dI prog_1_method_24_code 33 (.iconst 3) 1 34 ∧ Int32.ofInt 3 = 3 := by decide +kernel
theorem d_S_sacksFor_34 : dI prog_1_method_24_code 34 .iaload 1 35 := by decide +kernel
theorem d_S_sacksFor_35 : dI prog_1_method_24_code 35 (.invokevirtual 74) 3 38 := by decide +kernel
theorem d_S_sacksFor_38 : dI prog_1_method_24_code 38 (.istore_n 2) 1 39 := by decide +kernel
theorem d_S_sacksFor_39 : dI prog_1_method_24_code 39 (.bipush 99) 2 41 ∧ (Int8.ofInt 99).toInt32 = 99 := by decide +kernel
theorem d_S_sacksFor_41 : dI prog_1_method_24_code 41 (.istore_n 3) 1 42 := by decide +kernel
theorem d_S_sacksFor_42 : dI prog_1_method_24_code 42 (.iload_n 3) 1 43 := by decide +kernel
theorem d_S_sacksFor_43 : dJ prog_1_method_24_code 43 (.ifCond .lt 20) 20 46 63 := by decide +kernel
theorem d_S_sacksFor_46 : dI prog_1_method_24_code 46 (.iload_n 2) 1 47 := by decide +kernel
theorem d_S_sacksFor_47 : dI prog_1_method_24_code 47 (.iload_n 3) 1 48 := by decide +kernel
theorem d_S_sacksFor_48 : dI prog_1_method_24_code 48 (.iconst 0) 1 49 ∧ Int32.ofInt 0 = 0 := by decide +kernel
theorem d_S_sacksFor_49 : dI prog_1_method_24_code 49 (.invokestatic 181) 3 52 := by decide +kernel
theorem d_S_sacksFor_52 : dJ prog_1_method_24_code 52 (.if_icmp .lt 5) 5 55 57 := by decide +kernel
theorem d_S_sacksFor_55 : dI prog_1_method_24_code 55 (.iload_n 3) 1 56 := by decide +kernel
theorem d_S_sacksFor_56 : decode prog_1_method_24_code 56 = .ok (.ireturn, 1) := by decide +kernel
theorem d_S_sacksFor_57 : dI prog_1_method_24_code 57 (.iinc 3 (-1)) 3 60 ∧ Int32.ofInt (-1) = (-1) := by decide +kernel
theorem d_S_sacksFor_60 : dJ prog_1_method_24_code 60 (.goto (-18)) (-18) 63 42 := by decide +kernel
theorem d_S_sacksFor_63 : dI prog_1_method_24_code 63 (.aload_n 0) 1 64 := by decide +kernel
theorem d_S_sacksFor_64 : dI prog_1_method_24_code 64 (.iconst 3) 1 65 ∧ Int32.ofInt 3 = 3 := by decide +kernel
theorem d_S_sacksFor_65 : dI prog_1_method_24_code 65 (.invokevirtual 67) 3 68 := by decide +kernel
theorem d_S_sacksFor_68 : decode prog_1_method_24_code 68 = .ok (.ireturn, 1) := by decide +kernel
theorem d_S_waterFor_0 : dI prog_1_method_25_code 0 (.aload_n 0) 1 1 := by decide +kernel
theorem d_S_waterFor_1 : dI prog_1_method_25_code 1 (.getfield 36) 3 4 := by decide +kernel
theorem d_S_waterFor_4 : dI prog_1_method_25_code 4 (.aload_n 0) 1 5 := by decide +kernel
theorem d_S_waterFor_5 : dI prog_1_method_25_code 5 (.getfield 26) 3 8 := by decide +kernel
theorem d_S_waterFor_8 : dI prog_1_method_25_code 8 (.invokevirtual 122) 3 11 := by decide +kernel
theorem d_S_waterFor_11 : dI prog_1_method_25_code 11 (.aload_n 0) 1 12 := by decide +kernel
theorem d_S_waterFor_12 : dI prog_1_method_25_code 12 (.getfield 36) 3 15 := by decide +kernel
theorem d_S_waterFor_15 : dI prog_1_method_25_code 15 (.getfield 71) 3 18 := by decide +kernel
theorem d_S_waterFor_18 : dI prog_1_method_25_code 18 (.bipush 6) 2 20 ∧ (Int8.ofInt 6).toInt32 = 6 := by decide +kernel
theorem d_S_waterFor_20 : dI prog_1_method_25_code 20 (.sipush 9999) 3 23 ∧ (Int16.ofInt 9999).toInt32 = 9999 := by decide +kernel
theorem d_S_waterFor_23 : dI prog_1_method_25_code 23 .iastore 1 24 := by decide +kernel
theorem d_S_waterFor_24 : dI prog_1_method_25_code 24 (.aload_n 0) 1 25 := by decide +kernel
theorem d_S_waterFor_25 : dI prog_1_method_25_code 25 (.getfield 10) 3 28 := by decide +kernel
theorem d_S_waterFor_28 : dI prog_1_method_25_code 28 (.aload_n 0) 1 29 := by decide +kernel
theorem d_S_waterFor_29 : dI prog_1_method_25_code 29 (.getfield 36) 3 32 := by decide +kernel
theorem d_S_waterFor_32 : dI prog_1_method_25_code 32 (.invokevirtual 157) 3 35 := by decide +kernel
theorem d_S_waterFor_35 : dI prog_1_method_25_code 35 (.aload_n 0) 1 36 := by decide +kernel
theorem d_S_waterFor_36 : dI prog_1_method_25_code 36 (.getfield 10) 3 39 := by decide +kernel
theorem d_S_waterFor_39 : dI prog_1_method_25_code 39 (.getfield 151) 3 42 := by decide +kernel
theorem d_S_waterFor_42 : dJ prog_1_method_25_code 42 (.if_icmp .ge 9) 9 45 51 := by decide +kernel
theorem d_S_waterFor_45 : dI prog_1_method_25_code 45 (.aload_n 0) 1 46 := by decide +kernel
theorem d_S_waterFor_46 : dI prog_1_method_25_code 46 (.iconst 3) 1 47 ∧ Int32.ofInt 3 = 3 := by decide +kernel
theorem d_S_waterFor_47 : dI prog_1_method_25_code 47 (.invokevirtual 67) 3 50 := by decide +kernel
theorem d_S_waterFor_50 : decode prog_1_method_25_code 50 = .ok (.ireturn, 1) := by decide +kernel
theorem d_S_waterFor_51 : dI prog_1_method_25_code 51 (.aload_n 0) 1 52 := by decide +kernel
theorem d_S_waterFor_52 : dI prog_1_method_25_code 52 (.getfield 36) 3 55 := by decide +kernel
theorem d_S_waterFor_55 : dI prog_1_method_25_code 55 (.aload_n 0) 1 56 := by decide +kernel
theorem d_S_waterFor_56 : dI prog_1_method_25_code 56 (.getfield 26) 3 59 := by decide +kernel
theorem d_S_waterFor_59 : dI prog_1_method_25_code 59 (.bipush 8) 2 61 ∧ (Int8.ofInt 8).toInt32 = 8 := by decide +kernel
theorem d_S_waterFor_61 : dI prog_1_method_25_code 61 (.invokevirtual 126) 3 64 := by decide +kernel
theorem d_S_waterFor_64 : decode prog_1_method_25_code 64 = .ok (.ireturn, 1) := by decide +kernel
theorem d_S_boardsFor_0 : dI prog_1_method_26_code 0 (.iload_n 1) 1 1 := by decide +kernel
theorem d_S_boardsFor_1 : dI prog_1_method_26_code 1 (.iconst 1) 1 2 ∧ Int32.ofInt 1 = 1 := by decide +kernel
theorem d_S_boardsFor_2 : dJ prog_1_method_26_code 2 (.if_icmp .lt 9) 9 5 11 := by decide +kernel
theorem d_S_boardsFor_5 : dI prog_1_method_26_code 5 (.iload_n 1) 1 6 := by decide +kernel
theorem d_S_boardsFor_6 : dI prog_1_method_26_code 6 (.bipush 9) 2 8 ∧ (Int8.ofInt 9).toInt32 = 9 := by decide +kernel
theorem d_S_boardsFor_8 : dJ prog_1_method_26_code 8 (.if_icmp .le 9) 9 11 17 := by decide +kernel
theorem d_S_boardsFor_11 : dI prog_1_method_26_code 11 (.aload_n 0) 1 12 := by decide +kernel
theorem d_S_boardsFor_12 : dI prog_1_method_26_code 12 (.iconst 0) 1 13 ∧ Int32.ofInt 0 = 0 := by decide +kernel
theorem d_S_boardsFor_13 : dI prog_1_method_26_code 13 (.invokevirtual 67) 3 16 := by decide +kernel
theorem d_S_boardsFor_16 : decode prog_1_method_26_code 16 = .ok (.ireturn, 1) := by decide +kernel
theorem d_S_boardsFor_17 : dI prog_1_method_26_code 17 (.iconst 0) 1 18 ∧ Int32.ofInt 0 = 0 := by decide +kernel
theorem d_S_boardsFor_18 : dI prog_1_method_26_code 18 (.istore_n 2) 1 19 := by decide +kernel
theorem d_S_boardsFor_19 : dI prog_1_method_26_code 19 (.iload_n 2) 1 20 := by decide +kernel
theorem d_S_boardsFor_20 : dI prog_1_method_26_code 20 (.bipush 8) 2 22 ∧ (Int8.ofInt 8).toInt32 = 8 := by decide +kernel
theorem d_S_boardsFor_22 : dJ prog_1_method_26_code 22 (.if_icmp .gt 59) 59 25 81 := by decide +kernel
theorem d_S_boardsFor_25 : dI prog_1_method_26_code 25 (.aload_n 0) 1 26 := by decide +kernel
theorem d_S_boardsFor_26 : dI prog_1_method_26_code 26 (.getfield 36) 3 29 := by decide +kernel
theorem d_S_boardsFor_29 : dI prog_1_method_26_code 29 (.aload_n 0) 1 30 := by decide +kernel
theorem d_S_boardsFor_30 : dI prog_1_method_26_code 30 (.getfield 26) 3 33 := by decide +kernel
theorem d_S_boardsFor_33 : dI prog_1_method_26_code 33 (.invokevirtual 122) 3 36 := by decide +kernel
theorem d_S_boardsFor_36 : dI prog_1_method_26_code 36 (.aload_n 0) 1 37 := by decide +kernel
theorem d_S_boardsFor_37 : dI prog_1_method_26_code 37 (.getfield 36) 3 40 := by decide +kernel
theorem d_S_boardsFor_40 : dI prog_1_method_26_code 40 (.getfield 71) 3 43 := by decide +kernel
theorem d_S_boardsFor_43 : dI prog_1_method_26_code 43 (.iconst 4) 1 44 ∧ Int32.ofInt 4 = 4 := by decide +kernel
theorem d_S_boardsFor_44 : dI prog_1_method_26_code 44 (.iload_n 2) 1 45 := by decide +kernel
theorem d_S_boardsFor_45 : dI prog_1_method_26_code 45 .iastore 1 46 := by decide +kernel
theorem d_S_boardsFor_46 : dI prog_1_method_26_code 46 (.aload_n 0) 1 47 := by decide +kernel
theorem d_S_boardsFor_47 : dI prog_1_method_26_code 47 (.getfield 36) 3 50 := by decide +kernel
theorem d_S_boardsFor_50 : dI prog_1_method_26_code 50 (.iconst 2) 1 51 ∧ Int32.ofInt 2 = 2 := by decide +kernel
theorem d_S_boardsFor_51 : dI prog_1_method_26_code 51 (.invokevirtual 119) 3 54 := by decide +kernel
theorem d_S_boardsFor_54 : dJ prog_1_method_26_code 54 (.ifCond .eq 21) 21 57 75 := by decide +kernel
theorem d_S_boardsFor_57 : dI prog_1_method_26_code 57 (.aload_n 0) 1 58 := by decide +kernel
theorem d_S_boardsFor_58 : dI prog_1_method_26_code 58 (.getfield 36) 3 61 := by decide +kernel
theorem d_S_boardsFor_61 : dI prog_1_method_26_code 61 (.aload_n 0) 1 62 := by decide +kernel
theorem d_S_boardsFor_62 : dI prog_1_method_26_code 62 (.getfield 26) 3 65 := by decide +kernel
theorem d_S_boardsFor_65 : dI prog_1_method_26_code 65 (.iconst 0) 1 66 ∧ Int32.ofInt 0 = 0 := by decide +kernel
theorem d_S_boardsFor_66 : dI prog_1_method_26_code 66 (.invokevirtual 126) 3 69 := by decide +kernel
theorem d_S_boardsFor_69 : dI prog_1_method_26_code 69 (.iload_n 1) 1 70 := by decide +kernel
theorem d_S_boardsFor_70 : dJ prog_1_method_26_code 70 (.if_icmp .lt 5) 5 73 75 := by decide +kernel
theorem d_S_boardsFor_73 : dI prog_1_method_26_code 73 (.iload_n 2) 1 74 := by decide +kernel
theorem d_S_boardsFor_74 : decode prog_1_method_26_code 74 = .ok (.ireturn, 1) := by decide +kernel
theorem d_S_boardsFor_75 : dI prog_1_method_26_code 75 (.iinc 2 1) 3 78 ∧ Int32.ofInt 1 = 1 := by decide +kernel
theorem d_S_boardsFor_78 : dJ prog_1_method_26_code 78 (.goto (-59)) (-59) 81 19 := by decide +kernel
theorem d_S_boardsFor_81 : dI prog_1_method_26_code 81 (.aload_n 0) 1 82 := by decide +kernel
theorem d_S_boardsFor_82 : dI prog_1_method_26_code 82 (.iconst 3) 1 83 ∧ Int32.ofInt 3 = 3 := by decide +kernel
theorem d_S_boardsFor_83 : dI prog_1_method_26_code 83 (.invokevirtual 67) 3 86 := by decide +kernel
theorem d_S_boardsFor_86 : decode prog_1_method_26_code 86 = .ok (.ireturn, 1) := by decide +kernel
theorem d_S_way_0 : dI prog_1_method_27_code 0 (.aload_n 0) 1 1 := by decide +kernel
theorem d_S_way_1 : dI prog_1_method_27_code 1 (.iconst 0) 1 2 ∧ Int32.ofInt 0 = 0 := by decide +kernel
theorem d_S_way_2 : dI prog_1_method_27_code 2 (.bipush 20) 2 4 ∧ (Int8.ofInt 20).toInt32 = 20 := by decide +kernel
theorem d_S_way_4 : dI prog_1_method_27_code 4 (.invokevirtual 130) 3 7 := by decide +kernel
theorem d_S_way_7 : dI prog_1_method_27_code 7 (.istore_n 1) 1 8 := by decide +kernel
theorem d_S_way_8 : dI prog_1_method_27_code 8 (.aload_n 0) 1 9 := by decide +kernel
theorem d_S_way_9 : dI prog_1_method_27_code 9 (.bipush 6) 2 11 ∧ (Int8.ofInt 6).toInt32 = 6 := by decide +kernel
theorem d_S_way_11 : dI prog_1_method_27_code 11 (.bipush 20) 2 13 ∧ (Int8.ofInt 20).toInt32 = 20 := by decide +kernel
theorem d_S_way_13 : dI prog_1_method_27_code 13 (.invokevirtual 130) 3 16 := by decide +kernel
theorem d_S_way_16 : dI prog_1_method_27_code 16 (.istore_n 2) 1 17 := by decide +kernel
theorem d_S_way_17 : dI prog_1_method_27_code 17 (.iload_n 1) 1 18 := by decide +kernel
theorem d_S_way_18 : dJ prog_1_method_27_code 18 (.ifCond .ge 9) 9 21 27 := by decide +kernel
theorem d_S_way_21 : dI prog_1_method_27_code 21 (.iload_n 2) 1 22 := by decide +kernel
theorem d_S_way_22 : dJ prog_1_method_27_code 22 (.ifCond .ge 5) 5 25 27 := by decide +kernel
theorem d_S_way_25 : dI prog_1_method_27_code 25 (.iconst 0) 1 26 ∧ Int32.ofInt 0 = 0 := by decide +kernel
theorem d_S_way_26 : decode prog_1_method_27_code 26 = .ok (.ireturn, 1) := by decide +kernel
theorem d_S_way_27 : dI prog_1_method_27_code 27 (.iload_n 2) 1 28 := by decide +kernel
theorem d_S_way_28 : dJ prog_1_method_27_code 28 (.ifCond .lt 12) 12 31 40 := by decide +kernel
theorem d_S_way_31 : dI prog_1_method_27_code 31 (.iload_n 1) 1 32 := by decide +kernel
theorem d_S_way_32 : dJ prog_1_method_27_code 32 (.ifCond .lt 12) 12 35 44 := by decide +kernel
theorem d_S_way_35 : dI prog_1_method_27_code 35 (.iload_n 1) 1 36 := by decide +kernel
theorem d_S_way_36 : dI prog_1_method_27_code 36 (.iload_n 2) 1 37 := by decide +kernel
theorem d_S_way_37 : dJ prog_1_method_27_code 37 (.if_icmp .gt 7) 7 40 44 := by decide +kernel
theorem d_S_way_40 : dI prog_1_method_27_code 40 (.iconst 1) 1 41 ∧ Int32.ofInt 1 = 1 := by decide +kernel
theorem d_S_way_41 : dJ prog_1_method_27_code 41 (.goto 4) 4 44 45 := by decide +kernel
theorem d_S_way_44 : dI prog_1_method_27_code 44 (.iconst (-1)) 1 45 ∧ Int32.ofInt (-1) = (-1) := by decide +kernel
theorem d_S_way_45 : decode prog_1_method_27_code 45 = .ok (.ireturn, 1) := by decide +kernel
theorem d_S_odds_0 : dI prog_1_method_28_code 0 (.iload_n 1) 1 1 := by decide +kernel
theorem d_S_odds_1 : dI prog_1_method_28_code 1 (.iconst 1) 1 2 ∧ Int32.ofInt 1 = 1 := by decide +kernel
theorem d_S_odds_2 : dJ prog_1_method_28_code 2 (.if_icmp .lt 9) 9 5 11 := by decide +kernel
theorem d_S_odds_5 : dI prog_1_method_28_code 5 (.iload_n 1) 1 6 := by decide +kernel
theorem d_S_odds_6 : dI prog_1_method_28_code 6 (.bipush 20) 2 8 ∧ (Int8.ofInt 20).toInt32 = 20 := by decide +kernel
theorem d_S_odds_8 : dJ prog_1_method_28_code 8 (.if_icmp .le 9) 9 11 17 := by decide +kernel
theorem d_S_odds_11 : dI prog_1_method_28_code 11 (.aload_n 0) 1 12 := by decide +kernel
theorem d_S_odds_12 : dI prog_1_method_28_code 12 (.iconst 0) 1 13 ∧ Int32.ofInt 0 = 0 := by decide +kernel
theorem d_S_odds_13 : dI prog_1_method_28_code 13 (.invokevirtual 67) 3 16 := by decide +kernel
theorem d_S_odds_16 : decode prog_1_method_28_code 16 = .ok (.ireturn, 1) := by decide +kernel
theorem d_S_odds_17 : dI prog_1_method_28_code 17 (.aload_n 0) 1 18 := by decide +kernel
theorem d_S_odds_18 : dI prog_1_method_28_code 18 (.getfield 26) 3 21 := by decide +kernel
theorem d_S_odds_21 : dI prog_1_method_28_code 21 (.invokevirtual 94) 3 24 := by decide +kernel
theorem d_S_odds_24 : dJ prog_1_method_28_code 24 (.ifCond .eq 9) 9 27 33 := by decide +kernel
theorem d_S_odds_27 : dI prog_1_method_28_code 27 (.aload_n 0) 1 28 := by decide +kernel
theorem d_S_odds_28 : dI prog_1_method_28_code 28 (.iconst 4) 1 29 ∧ Int32.ofInt 4 = 4 := by decide +kernel
theorem d_S_odds_29 : dI prog_1_method_28_code 29 (.invokevirtual 67) 3 32 := by decide +kernel
theorem d_S_odds_32 : decode prog_1_method_28_code 32 = .ok (.ireturn, 1) := by decide +kernel
theorem d_S_odds_33 : dI prog_1_method_28_code 33 (.iconst 0) 1 34 ∧ Int32.ofInt 0 = 0 := by decide +kernel
theorem d_S_odds_34 : dI prog_1_method_28_code 34 (.istore_n 2) 1 35 := by decide +kernel
theorem d_S_odds_35 : dI prog_1_method_28_code 35 (.iconst 0) 1 36 ∧ Int32.ofInt 0 = 0 := by decide +kernel
theorem d_S_odds_36 : dI prog_1_method_28_code 36 (.istore_n 3) 1 37 := by decide +kernel
theorem d_S_odds_37 : dI prog_1_method_28_code 37 (.iload_n 3) 1 38 := by decide +kernel
theorem d_S_odds_38 : dI prog_1_method_28_code 38 (.iload_n 1) 1 39 := by decide +kernel
theorem d_S_odds_39 : dJ prog_1_method_28_code 39 (.if_icmp .ge 52) 52 42 91 := by decide +kernel
theorem d_S_odds_42 : dI prog_1_method_28_code 42 (.aload_n 0) 1 43 := by decide +kernel
theorem d_S_odds_43 : dI prog_1_method_28_code 43 (.getfield 10) 3 46 := by decide +kernel
theorem d_S_odds_46 : dI prog_1_method_28_code 46 (.invokevirtual 98) 3 49 := by decide +kernel
theorem d_S_odds_49 : dI prog_1_method_28_code 49 (.bipush 100) 2 51 ∧ (Int8.ofInt 100).toInt32 = 100 := by decide +kernel
theorem d_S_odds_51 : dI prog_1_method_28_code 51 .irem 1 52 := by decide +kernel
theorem d_S_odds_52 : dI prog_1_method_28_code 52 (.istore 4) 2 54 := by decide +kernel
theorem d_S_odds_54 : dI prog_1_method_28_code 54 (.aload_n 0) 1 55 := by decide +kernel
theorem d_S_odds_55 : dI prog_1_method_28_code 55 (.getfield 26) 3 58 := by decide +kernel
theorem d_S_odds_58 : dI prog_1_method_28_code 58 (.iload 4) 2 60 := by decide +kernel
theorem d_S_odds_60 : dI prog_1_method_28_code 60 (.aload_n 0) 1 61 := by decide +kernel
theorem d_S_odds_61 : dI prog_1_method_28_code 61 (.getfield 26) 3 64 := by decide +kernel
theorem d_S_odds_64 : dI prog_1_method_28_code 64 (.getfield 71) 3 67 := by decide +kernel
theorem d_S_odds_67 : dI prog_1_method_28_code 67 (.iconst 3) 1 68 ∧ Int32.ofInt 3 = 3 := by decide +kernel
theorem d_S_odds_68 : dI prog_1_method_28_code 68 .iaload 1 69 := by decide +kernel
theorem d_S_odds_69 : dI prog_1_method_28_code 69 (.invokevirtual 74) 3 72 := by decide +kernel
theorem d_S_odds_72 : dI prog_1_method_28_code 72 (.aload_n 0) 1 73 := by decide +kernel
theorem d_S_odds_73 : dI prog_1_method_28_code 73 (.getfield 26) 3 76 := by decide +kernel
theorem d_S_odds_76 : dI prog_1_method_28_code 76 (.invokevirtual 91) 3 79 := by decide +kernel
theorem d_S_odds_79 : dJ prog_1_method_28_code 79 (.if_icmp .lt 6) 6 82 85 := by decide +kernel
theorem d_S_odds_82 : dI prog_1_method_28_code 82 (.iinc 2 1) 3 85 ∧ Int32.ofInt 1 = 1 := by decide +kernel
theorem d_S_odds_85 : dI prog_1_method_28_code 85 (.iinc 3 1) 3 88 ∧ Int32.ofInt 1 = 1 := by decide +kernel
theorem d_S_odds_88 : dJ prog_1_method_28_code 88 (.goto (-51)) (-51) 91 37 := by decide +kernel
theorem d_S_odds_91 : dI prog_1_method_28_code 91 (.iload_n 2) 1 92 := by decide +kernel
theorem d_S_odds_92 : decode prog_1_method_28_code 92 = .ok (.ireturn, 1) := by decide +kernel
theorem d_S_seed_0 : dI prog_1_method_29_code 0 (.aload_n 0) 1 1 := by decide +kernel
theorem d_S_seed_1 : dI prog_1_method_29_code 1 (.getfield 10) 3 4 := by decide +kernel
theorem d_S_seed_4 : dI prog_1_method_29_code 4 (.getfield 184) 3 7 := by decide +kernel
theorem d_S_seed_7 : dI prog_1_method_29_code 7 (.istore_n 2) 1 8 := by decide +kernel
theorem d_S_seed_8 : dI prog_1_method_29_code 8 (.aload_n 0) 1 9 := by decide +kernel
theorem d_S_seed_9 : dI prog_1_method_29_code 9 (.getfield 10) 3 12 := by decide +kernel
theorem d_S_seed_12 : dI prog_1_method_29_code 12 (.iload_n 1) 1 13 := by decide +kernel
theorem d_S_seed_13 : dI prog_1_method_29_code 13 (.putfield 184) 3 16 := by decide +kernel
theorem d_S_seed_16 : dI prog_1_method_29_code 16 (.iload_n 2) 1 17 := by decide +kernel
theorem d_S_seed_17 : decode prog_1_method_29_code 17 = .ok (.ireturn, 1) := by decide +kernel
theorem d_S_hold_0 : dI prog_1_method_30_code 0 (.iload_n 1) 1 1 := by decide +kernel
theorem d_S_hold_1 : dI prog_1_method_30_code 1 (.invokestatic 187) 3 4 := by decide +kernel
theorem d_S_hold_4 : dJ prog_1_method_30_code 4 (.ifCond .eq 15) 15 7 19 := by decide +kernel
theorem d_S_hold_7 : dI prog_1_method_30_code 7 (.iload_n 2) 1 8 := by decide +kernel
theorem d_S_hold_8 : dI prog_1_method_30_code 8 (.iconst (-1)) 1 9 ∧ Int32.ofInt (-1) = (-1) := by decide +kernel
theorem d_S_hold_9 : dJ prog_1_method_30_code 9 (.if_icmp .eq 16) 16 12 25 := by decide +kernel
theorem d_S_hold_12 : dI prog_1_method_30_code 12 (.iload_n 2) 1 13 := by decide +kernel
theorem d_S_hold_13 : dI prog_1_method_30_code 13 (.invokestatic 104) 3 16 := by decide +kernel
theorem d_S_hold_16 : dJ prog_1_method_30_code 16 (.ifCond .ne 9) 9 19 25 := by decide +kernel
theorem d_S_hold_19 : dI prog_1_method_30_code 19 (.aload_n 0) 1 20 := by decide +kernel
theorem d_S_hold_20 : dI prog_1_method_30_code 20 (.iconst 0) 1 21 ∧ Int32.ofInt 0 = 0 := by decide +kernel
theorem d_S_hold_21 : dI prog_1_method_30_code 21 (.invokevirtual 67) 3 24 := by decide +kernel
theorem d_S_hold_24 : decode prog_1_method_30_code 24 = .ok (.ireturn, 1) := by decide +kernel
theorem d_S_hold_25 : dI prog_1_method_30_code 25 (.aload_n 0) 1 26 := by decide +kernel
theorem d_S_hold_26 : dI prog_1_method_30_code 26 (.getfield 10) 3 29 := by decide +kernel
theorem d_S_hold_29 : dI prog_1_method_30_code 29 (.getfield 190) 3 32 := by decide +kernel
theorem d_S_hold_32 : dI prog_1_method_30_code 32 (.iload_n 1) 1 33 := by decide +kernel
theorem d_S_hold_33 : dI prog_1_method_30_code 33 (.iload_n 2) 1 34 := by decide +kernel
theorem d_S_hold_34 : dI prog_1_method_30_code 34 .iastore 1 35 := by decide +kernel
theorem d_S_hold_35 : dI prog_1_method_30_code 35 (.iconst 1) 1 36 ∧ Int32.ofInt 1 = 1 := by decide +kernel
theorem d_S_hold_36 : decode prog_1_method_30_code 36 = .ok (.ireturn, 1) := by decide +kernel
theorem d_S_as_0 : dI prog_1_method_31_code 0 (.iload_n 1) 1 1 := by decide +kernel
theorem d_S_as_1 : dI prog_1_method_31_code 1 (.invokestatic 187) 3 4 := by decide +kernel
theorem d_S_as_4 : dJ prog_1_method_31_code 4 (.ifCond .eq 13) 13 7 17 := by decide +kernel
theorem d_S_as_7 : dI prog_1_method_31_code 7 (.iload_n 2) 1 8 := by decide +kernel
theorem d_S_as_8 : dJ prog_1_method_31_code 8 (.ifCond .lt 9) 9 11 17 := by decide +kernel
theorem d_S_as_11 : dI prog_1_method_31_code 11 (.iload_n 2) 1 12 := by decide +kernel
theorem d_S_as_12 : dI prog_1_method_31_code 12 (.bipush 8) 2 14 ∧ (Int8.ofInt 8).toInt32 = 8 := by decide +kernel
theorem d_S_as_14 : dJ prog_1_method_31_code 14 (.if_icmp .lt 9) 9 17 23 := by decide +kernel
theorem d_S_as_17 : dI prog_1_method_31_code 17 (.aload_n 0) 1 18 := by decide +kernel
theorem d_S_as_18 : dI prog_1_method_31_code 18 (.iconst 0) 1 19 ∧ Int32.ofInt 0 = 0 := by decide +kernel
theorem d_S_as_19 : dI prog_1_method_31_code 19 (.invokevirtual 67) 3 22 := by decide +kernel
theorem d_S_as_22 : decode prog_1_method_31_code 22 = .ok (.ireturn, 1) := by decide +kernel
theorem d_S_as_23 : dI prog_1_method_31_code 23 (.aload_n 0) 1 24 := by decide +kernel
theorem d_S_as_24 : dI prog_1_method_31_code 24 (.getfield 10) 3 27 := by decide +kernel
theorem d_S_as_27 : dI prog_1_method_31_code 27 (.getfield 190) 3 30 := by decide +kernel
theorem d_S_as_30 : dI prog_1_method_31_code 30 (.iload_n 1) 1 31 := by decide +kernel
theorem d_S_as_31 : dI prog_1_method_31_code 31 .iaload 1 32 := by decide +kernel
theorem d_S_as_32 : dI prog_1_method_31_code 32 (.istore_n 3) 1 33 := by decide +kernel
theorem d_S_as_33 : dI prog_1_method_31_code 33 (.iload_n 3) 1 34 := by decide +kernel
theorem d_S_as_34 : dI prog_1_method_31_code 34 (.invokestatic 104) 3 37 := by decide +kernel
theorem d_S_as_37 : dJ prog_1_method_31_code 37 (.ifCond .eq 16) 16 40 53 := by decide +kernel
theorem d_S_as_40 : dI prog_1_method_31_code 40 (.aload_n 0) 1 41 := by decide +kernel
theorem d_S_as_41 : dI prog_1_method_31_code 41 (.getfield 10) 3 44 := by decide +kernel
theorem d_S_as_44 : dI prog_1_method_31_code 44 (.getfield 107) 3 47 := by decide +kernel
theorem d_S_as_47 : dI prog_1_method_31_code 47 (.iload_n 3) 1 48 := by decide +kernel
theorem d_S_as_48 : dI prog_1_method_31_code 48 .iaload 1 49 := by decide +kernel
theorem d_S_as_49 : dI prog_1_method_31_code 49 (.iconst (-1)) 1 50 ∧ Int32.ofInt (-1) = (-1) := by decide +kernel
theorem d_S_as_50 : dJ prog_1_method_31_code 50 (.if_icmp .ne 9) 9 53 59 := by decide +kernel
theorem d_S_as_53 : dI prog_1_method_31_code 53 (.aload_n 0) 1 54 := by decide +kernel
theorem d_S_as_54 : dI prog_1_method_31_code 54 (.iconst 5) 1 55 ∧ Int32.ofInt 5 = 5 := by decide +kernel
theorem d_S_as_55 : dI prog_1_method_31_code 55 (.invokevirtual 67) 3 58 := by decide +kernel
theorem d_S_as_58 : decode prog_1_method_31_code 58 = .ok (.ireturn, 1) := by decide +kernel
theorem d_S_as_59 : dI prog_1_method_31_code 59 (.aload_n 0) 1 60 := by decide +kernel
theorem d_S_as_60 : dI prog_1_method_31_code 60 (.getfield 10) 3 63 := by decide +kernel
theorem d_S_as_63 : dI prog_1_method_31_code 63 (.getfield 107) 3 66 := by decide +kernel
theorem d_S_as_66 : dI prog_1_method_31_code 66 (.iload_n 3) 1 67 := by decide +kernel
theorem d_S_as_67 : dI prog_1_method_31_code 67 .iaload 1 68 := by decide +kernel
theorem d_S_as_68 : dI prog_1_method_31_code 68 (.iload_n 2) 1 69 := by decide +kernel
theorem d_S_as_69 : dI prog_1_method_31_code 69 (.invokestatic 193) 3 72 := by decide +kernel
theorem d_S_as_72 : dJ prog_1_method_31_code 72 (.ifCond .eq 7) 7 75 79 := by decide +kernel
theorem d_S_as_75 : dI prog_1_method_31_code 75 (.iload_n 3) 1 76 := by decide +kernel
theorem d_S_as_76 : dJ prog_1_method_31_code 76 (.goto 8) 8 79 84 := by decide +kernel
theorem d_S_as_79 : dI prog_1_method_31_code 79 (.aload_n 0) 1 80 := by decide +kernel
theorem d_S_as_80 : dI prog_1_method_31_code 80 (.iconst 2) 1 81 ∧ Int32.ofInt 2 = 2 := by decide +kernel
theorem d_S_as_81 : dI prog_1_method_31_code 81 (.invokevirtual 67) 3 84 := by decide +kernel
theorem d_S_as_84 : decode prog_1_method_31_code 84 = .ok (.ireturn, 1) := by decide +kernel
theorem d_S_sheet_0 : dI prog_1_method_32_code 0 (.iload_n 1) 1 1 := by decide +kernel
theorem d_S_sheet_1 : dI prog_1_method_32_code 1 (.invokestatic 197) 3 4 := by decide +kernel
theorem d_S_sheet_4 : dJ prog_1_method_32_code 4 (.ifCond .eq 25) 25 7 29 := by decide +kernel
theorem d_S_sheet_7 : dI prog_1_method_32_code 7 (.iload_n 2) 1 8 := by decide +kernel
theorem d_S_sheet_8 : dJ prog_1_method_32_code 8 (.ifCond .eq 27) 27 11 35 := by decide +kernel
theorem d_S_sheet_11 : dI prog_1_method_32_code 11 (.iload_n 2) 1 12 := by decide +kernel
theorem d_S_sheet_12 : dI prog_1_method_32_code 12 (.bipush 8) 2 14 ∧ (Int8.ofInt 8).toInt32 = 8 := by decide +kernel
theorem d_S_sheet_14 : dJ prog_1_method_32_code 14 (.if_icmp .eq 21) 21 17 35 := by decide +kernel
theorem d_S_sheet_17 : dI prog_1_method_32_code 17 (.iload_n 2) 1 18 := by decide +kernel
theorem d_S_sheet_18 : dI prog_1_method_32_code 18 (.bipush 16) 2 20 ∧ (Int8.ofInt 16).toInt32 = 16 := by decide +kernel
theorem d_S_sheet_20 : dJ prog_1_method_32_code 20 (.if_icmp .eq 15) 15 23 35 := by decide +kernel
theorem d_S_sheet_23 : dI prog_1_method_32_code 23 (.iload_n 2) 1 24 := by decide +kernel
theorem d_S_sheet_24 : dI prog_1_method_32_code 24 (.bipush 32) 2 26 ∧ (Int8.ofInt 32).toInt32 = 32 := by decide +kernel
theorem d_S_sheet_26 : dJ prog_1_method_32_code 26 (.if_icmp .eq 9) 9 29 35 := by decide +kernel
theorem d_S_sheet_29 : dI prog_1_method_32_code 29 (.aload_n 0) 1 30 := by decide +kernel
theorem d_S_sheet_30 : dI prog_1_method_32_code 30 (.iconst 0) 1 31 ∧ Int32.ofInt 0 = 0 := by decide +kernel
theorem d_S_sheet_31 : dI prog_1_method_32_code 31 (.invokevirtual 67) 3 34 := by decide +kernel
theorem d_S_sheet_34 : decode prog_1_method_32_code 34 = .ok (.ireturn, 1) := by decide +kernel
theorem d_S_sheet_35 : dI prog_1_method_32_code 35 (.iload_n 3) 1 36 := by decide +kernel
theorem d_S_sheet_36 : dJ prog_1_method_32_code 36 (.ifCond .ge 10) 10 39 46 := by decide +kernel
theorem d_S_sheet_39 : dI prog_1_method_32_code 39 (.aload_n 0) 1 40 := by decide +kernel
theorem d_S_sheet_40 : dI prog_1_method_32_code 40 (.bipush 6) 2 42 ∧ (Int8.ofInt 6).toInt32 = 6 := by decide +kernel
theorem d_S_sheet_42 : dI prog_1_method_32_code 42 (.invokevirtual 67) 3 45 := by decide +kernel
theorem d_S_sheet_45 : decode prog_1_method_32_code 45 = .ok (.ireturn, 1) := by decide +kernel
theorem d_S_sheet_46 : dI prog_1_method_32_code 46 (.iload_n 3) 1 47 := by decide +kernel
theorem d_S_sheet_47 : dI prog_1_method_32_code 47 (.bipush 40) 2 49 ∧ (Int8.ofInt 40).toInt32 = 40 := by decide +kernel
theorem d_S_sheet_49 : dJ prog_1_method_32_code 49 (.if_icmp .le 9) 9 52 58 := by decide +kernel
theorem d_S_sheet_52 : dI prog_1_method_32_code 52 (.aload_n 0) 1 53 := by decide +kernel
theorem d_S_sheet_53 : dI prog_1_method_32_code 53 (.iconst 0) 1 54 ∧ Int32.ofInt 0 = 0 := by decide +kernel
theorem d_S_sheet_54 : dI prog_1_method_32_code 54 (.invokevirtual 67) 3 57 := by decide +kernel
theorem d_S_sheet_57 : decode prog_1_method_32_code 57 = .ok (.ireturn, 1) := by decide +kernel
theorem d_S_sheet_58 : dI prog_1_method_32_code 58 (.aload_n 0) 1 59 := by decide +kernel
theorem d_S_sheet_59 : dI prog_1_method_32_code 59 (.getfield 56) 3 62 := by decide +kernel
theorem d_S_sheet_62 : dI prog_1_method_32_code 62 (.iload_n 1) 1 63 := by decide +kernel
theorem d_S_sheet_63 : dI prog_1_method_32_code 63 .aaload 1 64 := by decide +kernel
theorem d_S_sheet_64 : dI prog_1_method_32_code 64 (.iload_n 2) 1 65 := by decide +kernel
theorem d_S_sheet_65 : dI prog_1_method_32_code 65 (.iload_n 3) 1 66 := by decide +kernel
theorem d_S_sheet_66 : dI prog_1_method_32_code 66 (.invokevirtual 200) 3 69 := by decide +kernel
theorem d_S_sheet_69 : dI prog_1_method_32_code 69 (.aload_n 0) 1 70 := by decide +kernel
theorem d_S_sheet_70 : dI prog_1_method_32_code 70 (.getfield 56) 3 73 := by decide +kernel
theorem d_S_sheet_73 : dI prog_1_method_32_code 73 (.iload_n 1) 1 74 := by decide +kernel
theorem d_S_sheet_74 : dI prog_1_method_32_code 74 .aaload 1 75 := by decide +kernel
theorem d_S_sheet_75 : dI prog_1_method_32_code 75 (.getfield 204) 3 78 := by decide +kernel
theorem d_S_sheet_78 : decode prog_1_method_32_code 78 = .ok (.ireturn, 1) := by decide +kernel
theorem d_S_write_0 : dI prog_1_method_33_code 0 (.iload_n 1) 1 1 := by decide +kernel
theorem d_S_write_1 : dI prog_1_method_33_code 1 (.invokestatic 197) 3 4 := by decide +kernel
theorem d_S_write_4 : dJ prog_1_method_33_code 4 (.ifCond .ne 9) 9 7 13 := by decide +kernel
theorem d_S_write_7 : dI prog_1_method_33_code 7 (.aload_n 0) 1 8 := by decide +kernel
theorem d_S_write_8 : dI prog_1_method_33_code 8 (.iconst 0) 1 9 ∧ Int32.ofInt 0 = 0 := by decide +kernel
theorem d_S_write_9 : dI prog_1_method_33_code 9 (.invokevirtual 67) 3 12 := by decide +kernel
theorem d_S_write_12 : decode prog_1_method_33_code 12 = .ok (.ireturn, 1) := by decide +kernel
theorem d_S_write_13 : dI prog_1_method_33_code 13 (.aload_n 0) 1 14 := by decide +kernel
theorem d_S_write_14 : dI prog_1_method_33_code 14 (.getfield 56) 3 17 := by decide +kernel
theorem d_S_write_17 : dI prog_1_method_33_code 17 (.iload_n 1) 1 18 := by decide +kernel
theorem d_S_write_18 : dI prog_1_method_33_code 18 .aaload 1 19 := by decide +kernel
theorem d_S_write_19 : dI prog_1_method_33_code 19 (.astore 4) 2 21 := by decide +kernel
theorem d_S_write_21 : dI prog_1_method_33_code 21 (.aload 4) 2 23 := by decide +kernel
theorem d_S_write_23 : dI prog_1_method_33_code 23 (.invokevirtual 207) 3 26 := by decide +kernel
theorem d_S_write_26 : dJ prog_1_method_33_code 26 (.ifCond .eq 9) 9 29 35 := by decide +kernel
theorem d_S_write_29 : dI prog_1_method_33_code 29 (.aload_n 0) 1 30 := by decide +kernel
theorem d_S_write_30 : dI prog_1_method_33_code 30 (.iconst 5) 1 31 ∧ Int32.ofInt 5 = 5 := by decide +kernel
theorem d_S_write_31 : dI prog_1_method_33_code 31 (.invokevirtual 67) 3 34 := by decide +kernel
theorem d_S_write_34 : decode prog_1_method_33_code 34 = .ok (.ireturn, 1) := by decide +kernel
theorem d_S_write_35 : dI prog_1_method_33_code 35 (.aload 4) 2 37 := by decide +kernel
theorem d_S_write_37 : dI prog_1_method_33_code 37 (.iload_n 2) 1 38 := by decide +kernel
theorem d_S_write_38 : dI prog_1_method_33_code 38 (.iconst 1) 1 39 ∧ Int32.ofInt 1 = 1 := by decide +kernel
theorem d_S_write_39 : dI prog_1_method_33_code 39 (.invokevirtual 210) 3 42 := by decide +kernel
theorem d_S_write_42 : dJ prog_1_method_33_code 42 (.ifCond .ne 9) 9 45 51 := by decide +kernel
theorem d_S_write_45 : dI prog_1_method_33_code 45 (.aload_n 0) 1 46 := by decide +kernel
theorem d_S_write_46 : dI prog_1_method_33_code 46 (.iconst 0) 1 47 ∧ Int32.ofInt 0 = 0 := by decide +kernel
theorem d_S_write_47 : dI prog_1_method_33_code 47 (.invokevirtual 67) 3 50 := by decide +kernel
theorem d_S_write_50 : decode prog_1_method_33_code 50 = .ok (.ireturn, 1) := by decide +kernel
theorem d_S_write_51 : dI prog_1_method_33_code 51 (.aload 4) 2 53 := by decide +kernel
theorem d_S_write_53 : dI prog_1_method_33_code 53 (.getfield 213) 3 56 := by decide +kernel
theorem d_S_write_56 : dI prog_1_method_33_code 56 (.iload_n 2) 1 57 := by decide +kernel
theorem d_S_write_57 : dI prog_1_method_33_code 57 (.aload 4) 2 59 := by decide +kernel
theorem d_S_write_59 : dI prog_1_method_33_code 59 (.iload_n 3) 1 60 := by decide +kernel
theorem d_S_write_60 : dI prog_1_method_33_code 60 (.invokevirtual 216) 3 63 := by decide +kernel
theorem d_S_write_63 : dI prog_1_method_33_code 63 .iastore 1 64 := by decide +kernel
theorem d_S_write_64 : dI prog_1_method_33_code 64 (.iconst 1) 1 65 ∧ Int32.ofInt 1 = 1 := by decide +kernel
theorem d_S_write_65 : decode prog_1_method_33_code 65 = .ok (.ireturn, 1) := by decide +kernel
theorem d_S_copy_0 : dI prog_1_method_34_code 0 (.iload_n 1) 1 1 := by decide +kernel
theorem d_S_copy_1 : dI prog_1_method_34_code 1 (.invokestatic 197) 3 4 := by decide +kernel
theorem d_S_copy_4 : dJ prog_1_method_34_code 4 (.ifCond .eq 10) 10 7 14 := by decide +kernel
theorem d_S_copy_7 : dI prog_1_method_34_code 7 (.iload_n 3) 1 8 := by decide +kernel
theorem d_S_copy_8 : dI prog_1_method_34_code 8 (.invokestatic 197) 3 11 := by decide +kernel
theorem d_S_copy_11 : dJ prog_1_method_34_code 11 (.ifCond .ne 9) 9 14 20 := by decide +kernel
theorem d_S_copy_14 : dI prog_1_method_34_code 14 (.aload_n 0) 1 15 := by decide +kernel
theorem d_S_copy_15 : dI prog_1_method_34_code 15 (.iconst 0) 1 16 ∧ Int32.ofInt 0 = 0 := by decide +kernel
theorem d_S_copy_16 : dI prog_1_method_34_code 16 (.invokevirtual 67) 3 19 := by decide +kernel
theorem d_S_copy_19 : decode prog_1_method_34_code 19 = .ok (.ireturn, 1) := by decide +kernel
theorem d_S_copy_20 : dI prog_1_method_34_code 20 (.aload_n 0) 1 21 := by decide +kernel
theorem d_S_copy_21 : dI prog_1_method_34_code 21 (.getfield 56) 3 24 := by decide +kernel
theorem d_S_copy_24 : dI prog_1_method_34_code 24 (.iload_n 1) 1 25 := by decide +kernel
theorem d_S_copy_25 : dI prog_1_method_34_code 25 .aaload 1 26 := by decide +kernel
theorem d_S_copy_26 : dI prog_1_method_34_code 26 (.astore 6) 2 28 := by decide +kernel
theorem d_S_copy_28 : dI prog_1_method_34_code 28 (.aload_n 0) 1 29 := by decide +kernel
theorem d_S_copy_29 : dI prog_1_method_34_code 29 (.getfield 56) 3 32 := by decide +kernel
theorem d_S_copy_32 : dI prog_1_method_34_code 32 (.iload_n 3) 1 33 := by decide +kernel
theorem d_S_copy_33 : dI prog_1_method_34_code 33 .aaload 1 34 := by decide +kernel
theorem d_S_copy_34 : dI prog_1_method_34_code 34 (.astore 7) 2 36 := by decide +kernel
theorem d_S_copy_36 : dI prog_1_method_34_code 36 (.aload 6) 2 38 := by decide +kernel
theorem d_S_copy_38 : dI prog_1_method_34_code 38 (.invokevirtual 207) 3 41 := by decide +kernel
theorem d_S_copy_41 : dJ prog_1_method_34_code 41 (.ifCond .ne 11) 11 44 52 := by decide +kernel
theorem d_S_copy_44 : dI prog_1_method_34_code 44 (.aload 7) 2 46 := by decide +kernel
theorem d_S_copy_46 : dI prog_1_method_34_code 46 (.invokevirtual 207) 3 49 := by decide +kernel
theorem d_S_copy_49 : dJ prog_1_method_34_code 49 (.ifCond .eq 9) 9 52 58 := by decide +kernel
theorem d_S_copy_52 : dI prog_1_method_34_code 52 (.aload_n 0) 1 53 := by decide +kernel
theorem d_S_copy_53 : dI prog_1_method_34_code 53 (.iconst 5) 1 54 ∧ Int32.ofInt 5 = 5 := by decide +kernel
theorem d_S_copy_54 : dI prog_1_method_34_code 54 (.invokevirtual 67) 3 57 := by decide +kernel
theorem d_S_copy_57 : decode prog_1_method_34_code 57 = .ok (.ireturn, 1) := by decide +kernel
theorem d_S_copy_58 : dI prog_1_method_34_code 58 (.aload 6) 2 60 := by decide +kernel
theorem d_S_copy_60 : dI prog_1_method_34_code 60 (.getfield 219) 3 63 := by decide +kernel
theorem d_S_copy_63 : dI prog_1_method_34_code 63 (.aload 7) 2 65 := by decide +kernel
theorem d_S_copy_65 : dI prog_1_method_34_code 65 (.getfield 219) 3 68 := by decide +kernel
theorem d_S_copy_68 : dJ prog_1_method_34_code 68 (.if_icmp .eq 9) 9 71 77 := by decide +kernel
theorem d_S_copy_71 : dI prog_1_method_34_code 71 (.aload_n 0) 1 72 := by decide +kernel
theorem d_S_copy_72 : dI prog_1_method_34_code 72 (.iconst 2) 1 73 ∧ Int32.ofInt 2 = 2 := by decide +kernel
theorem d_S_copy_73 : dI prog_1_method_34_code 73 (.invokevirtual 67) 3 76 := by decide +kernel
theorem d_S_copy_76 : decode prog_1_method_34_code 76 = .ok (.ireturn, 1) := by decide +kernel
theorem d_S_copy_77 : dI prog_1_method_34_code 77 (.aload 6) 2 79 := by decide +kernel
theorem d_S_copy_79 : dI prog_1_method_34_code 79 (.iload_n 2) 1 80 := by decide +kernel
theorem d_S_copy_80 : dI prog_1_method_34_code 80 (.iload 5) 2 82 := by decide +kernel
theorem d_S_copy_82 : dI prog_1_method_34_code 82 (.invokevirtual 210) 3 85 := by decide +kernel
theorem d_S_copy_85 : dJ prog_1_method_34_code 85 (.ifCond .eq 15) 15 88 100 := by decide +kernel
theorem d_S_copy_88 : dI prog_1_method_34_code 88 (.aload 7) 2 90 := by decide +kernel
theorem d_S_copy_90 : dI prog_1_method_34_code 90 (.iload 4) 2 92 := by decide +kernel
theorem d_S_copy_92 : dI prog_1_method_34_code 92 (.iload 5) 2 94 := by decide +kernel
theorem d_S_copy_94 : dI prog_1_method_34_code 94 (.invokevirtual 210) 3 97 := by decide +kernel
theorem d_S_copy_97 : dJ prog_1_method_34_code 97 (.ifCond .ne 9) 9 100 106 := by decide +kernel
theorem d_S_copy_100 : dI prog_1_method_34_code 100 (.aload_n 0) 1 101 := by decide +kernel
theorem d_S_copy_101 : dI prog_1_method_34_code 101 (.iconst 0) 1 102 ∧ Int32.ofInt 0 = 0 := by decide +kernel
theorem d_S_copy_102 : dI prog_1_method_34_code 102 (.invokevirtual 67) 3 105 := by decide +kernel
theorem d_S_copy_105 : decode prog_1_method_34_code 105 = .ok (.ireturn, 1) := by decide +kernel
theorem d_S_copy_106 : dI prog_1_method_34_code 106 (.aload 6) 2 108 := by decide +kernel
theorem d_S_copy_108 : dI prog_1_method_34_code 108 (.getfield 213) 3 111 := by decide +kernel
theorem d_S_copy_111 : dI prog_1_method_34_code 111 (.iload_n 2) 1 112 := by decide +kernel
theorem d_S_copy_112 : dI prog_1_method_34_code 112 (.aload 7) 2 114 := by decide +kernel
theorem d_S_copy_114 : dI prog_1_method_34_code 114 (.getfield 213) 3 117 := by decide +kernel
theorem d_S_copy_117 : dI prog_1_method_34_code 117 (.iload 4) 2 119 := by decide +kernel
theorem d_S_copy_119 : dI prog_1_method_34_code 119 (.iload 5) 2 121 := by decide +kernel
theorem d_S_copy_121 : dI prog_1_method_34_code 121 (.invokestatic 222) 3 124 := by decide +kernel
theorem d_S_copy_124 : dI prog_1_method_34_code 124 (.iload 5) 2 126 := by decide +kernel
theorem d_S_copy_126 : decode prog_1_method_34_code 126 = .ok (.ireturn, 1) := by decide +kernel
theorem d_S_load_0 : dI prog_1_method_35_code 0 (.iload_n 1) 1 1 := by decide +kernel
theorem d_S_load_1 : dI prog_1_method_35_code 1 (.invokestatic 197) 3 4 := by decide +kernel
theorem d_S_load_4 : dJ prog_1_method_35_code 4 (.ifCond .ne 9) 9 7 13 := by decide +kernel
theorem d_S_load_7 : dI prog_1_method_35_code 7 (.aload_n 0) 1 8 := by decide +kernel
theorem d_S_load_8 : dI prog_1_method_35_code 8 (.iconst 0) 1 9 ∧ Int32.ofInt 0 = 0 := by decide +kernel
theorem d_S_load_9 : dI prog_1_method_35_code 9 (.invokevirtual 67) 3 12 := by decide +kernel
theorem d_S_load_12 : decode prog_1_method_35_code 12 = .ok (.ireturn, 1) := by decide +kernel
theorem d_S_load_13 : dI prog_1_method_35_code 13 (.aload_n 0) 1 14 := by decide +kernel
theorem d_S_load_14 : dI prog_1_method_35_code 14 (.getfield 56) 3 17 := by decide +kernel
theorem d_S_load_17 : dI prog_1_method_35_code 17 (.iload_n 1) 1 18 := by decide +kernel
theorem d_S_load_18 : dI prog_1_method_35_code 18 .aaload 1 19 := by decide +kernel
theorem d_S_load_19 : dI prog_1_method_35_code 19 (.astore_n 3) 1 20 := by decide +kernel
theorem d_S_load_20 : dI prog_1_method_35_code 20 (.aload_n 3) 1 21 := by decide +kernel
theorem d_S_load_21 : dI prog_1_method_35_code 21 (.invokevirtual 207) 3 24 := by decide +kernel
theorem d_S_load_24 : dJ prog_1_method_35_code 24 (.ifCond .eq 9) 9 27 33 := by decide +kernel
theorem d_S_load_27 : dI prog_1_method_35_code 27 (.aload_n 0) 1 28 := by decide +kernel
theorem d_S_load_28 : dI prog_1_method_35_code 28 (.iconst 5) 1 29 ∧ Int32.ofInt 5 = 5 := by decide +kernel
theorem d_S_load_29 : dI prog_1_method_35_code 29 (.invokevirtual 67) 3 32 := by decide +kernel
theorem d_S_load_32 : decode prog_1_method_35_code 32 = .ok (.ireturn, 1) := by decide +kernel
theorem d_S_load_33 : dI prog_1_method_35_code 33 (.iload_n 2) 1 34 := by decide +kernel
theorem d_S_load_34 : dI prog_1_method_35_code 34 (.invokestatic 63) 3 37 := by decide +kernel
theorem d_S_load_37 : dJ prog_1_method_35_code 37 (.ifCond .ne 9) 9 40 46 := by decide +kernel
theorem d_S_load_40 : dI prog_1_method_35_code 40 (.aload_n 0) 1 41 := by decide +kernel
theorem d_S_load_41 : dI prog_1_method_35_code 41 (.iconst 0) 1 42 ∧ Int32.ofInt 0 = 0 := by decide +kernel
theorem d_S_load_42 : dI prog_1_method_35_code 42 (.invokevirtual 67) 3 45 := by decide +kernel
theorem d_S_load_45 : decode prog_1_method_35_code 45 = .ok (.ireturn, 1) := by decide +kernel
theorem d_S_load_46 : dI prog_1_method_35_code 46 (.aload_n 3) 1 47 := by decide +kernel
theorem d_S_load_47 : dI prog_1_method_35_code 47 (.getfield 204) 3 50 := by decide +kernel
theorem d_S_load_50 : dI prog_1_method_35_code 50 (.bipush 40) 2 52 ∧ (Int8.ofInt 40).toInt32 = 40 := by decide +kernel
theorem d_S_load_52 : dI prog_1_method_35_code 52 (.iload_n 2) 1 53 := by decide +kernel
theorem d_S_load_53 : dI prog_1_method_35_code 53 .isub 1 54 := by decide +kernel
theorem d_S_load_54 : dI prog_1_method_35_code 54 (.invokestatic 228) 3 57 := by decide +kernel
theorem d_S_load_57 : dI prog_1_method_35_code 57 (.istore 4) 2 59 := by decide +kernel
theorem d_S_load_59 : dI prog_1_method_35_code 59 (.iconst 0) 1 60 ∧ Int32.ofInt 0 = 0 := by decide +kernel
theorem d_S_load_60 : dI prog_1_method_35_code 60 (.istore 5) 2 62 := by decide +kernel
theorem d_S_load_62 : dI prog_1_method_35_code 62 (.iload 5) 2 64 := by decide +kernel
theorem d_S_load_64 : dI prog_1_method_35_code 64 (.iload 4) 2 66 := by decide +kernel
theorem d_S_load_66 : dJ prog_1_method_35_code 66 (.if_icmp .ge 50) 50 69 116 := by decide +kernel
theorem d_S_load_69 : dI prog_1_method_35_code 69 (.aload_n 3) 1 70 := by decide +kernel
theorem d_S_load_70 : dI prog_1_method_35_code 70 (.getfield 213) 3 73 := by decide +kernel
theorem d_S_load_73 : dI prog_1_method_35_code 73 (.iload 5) 2 75 := by decide +kernel
theorem d_S_load_75 : dI prog_1_method_35_code 75 .iaload 1 76 := by decide +kernel
theorem d_S_load_76 : dJ prog_1_method_35_code 76 (.ifCond .lt 40) 40 79 116 := by decide +kernel
theorem d_S_load_79 : dI prog_1_method_35_code 79 (.aload_n 3) 1 80 := by decide +kernel
theorem d_S_load_80 : dI prog_1_method_35_code 80 (.getfield 213) 3 83 := by decide +kernel
theorem d_S_load_83 : dI prog_1_method_35_code 83 (.iload 5) 2 85 := by decide +kernel
theorem d_S_load_85 : dI prog_1_method_35_code 85 .iaload 1 86 := by decide +kernel
theorem d_S_load_86 : dI prog_1_method_35_code 86 (.bipush 99) 2 88 ∧ (Int8.ofInt 99).toInt32 = 99 := by decide +kernel
theorem d_S_load_88 : dJ prog_1_method_35_code 88 (.if_icmp .gt 28) 28 91 116 := by decide +kernel
theorem d_S_load_91 : dI prog_1_method_35_code 91 (.aload_n 0) 1 92 := by decide +kernel
theorem d_S_load_92 : dI prog_1_method_35_code 92 (.getfield 10) 3 95 := by decide +kernel
theorem d_S_load_95 : dI prog_1_method_35_code 95 (.getfield 29) 3 98 := by decide +kernel
theorem d_S_load_98 : dI prog_1_method_35_code 98 (.iload_n 2) 1 99 := by decide +kernel
theorem d_S_load_99 : dI prog_1_method_35_code 99 (.iload 5) 2 101 := by decide +kernel
theorem d_S_load_101 : dI prog_1_method_35_code 101 .iadd 1 102 := by decide +kernel
theorem d_S_load_102 : dI prog_1_method_35_code 102 (.aload_n 3) 1 103 := by decide +kernel
theorem d_S_load_103 : dI prog_1_method_35_code 103 (.getfield 213) 3 106 := by decide +kernel
theorem d_S_load_106 : dI prog_1_method_35_code 106 (.iload 5) 2 108 := by decide +kernel
theorem d_S_load_108 : dI prog_1_method_35_code 108 .iaload 1 109 := by decide +kernel
theorem d_S_load_109 : dI prog_1_method_35_code 109 .iastore 1 110 := by decide +kernel
theorem d_S_load_110 : dI prog_1_method_35_code 110 (.iinc 5 1) 3 113 ∧ Int32.ofInt 1 = 1 := by decide +kernel
theorem d_S_load_113 : dJ prog_1_method_35_code 113 (.goto (-51)) (-51) 116 62 := by decide +kernel
theorem d_S_load_116 : dI prog_1_method_35_code 116 (.iload 5) 2 118 := by decide +kernel
theorem d_S_load_118 : decode prog_1_method_35_code 118 = .ok (.ireturn, 1) := by decide +kernel
theorem d_S_judge_0 : dI prog_1_method_36_code 0 (.iload_n 1) 1 1 := by decide +kernel
theorem d_S_judge_1 : dI prog_1_method_36_code 1 (.invokestatic 197) 3 4 := by decide +kernel
theorem d_S_judge_4 : dJ prog_1_method_36_code 4 (.ifCond .ne 9) 9 7 13 := by decide +kernel
theorem d_S_judge_7 : dI prog_1_method_36_code 7 (.aload_n 0) 1 8 := by decide +kernel
theorem d_S_judge_8 : dI prog_1_method_36_code 8 (.iconst 0) 1 9 ∧ Int32.ofInt 0 = 0 := by decide +kernel
theorem d_S_judge_9 : dI prog_1_method_36_code 9 (.invokevirtual 67) 3 12 := by decide +kernel
theorem d_S_judge_12 : decode prog_1_method_36_code 12 = .ok (.ireturn, 1) := by decide +kernel
theorem d_S_judge_13 : dI prog_1_method_36_code 13 (.aload_n 0) 1 14 := by decide +kernel
theorem d_S_judge_14 : dI prog_1_method_36_code 14 (.getfield 56) 3 17 := by decide +kernel
theorem d_S_judge_17 : dI prog_1_method_36_code 17 (.iload_n 1) 1 18 := by decide +kernel
theorem d_S_judge_18 : dI prog_1_method_36_code 18 .aaload 1 19 := by decide +kernel
theorem d_S_judge_19 : dI prog_1_method_36_code 19 (.astore_n 2) 1 20 := by decide +kernel
theorem d_S_judge_20 : dI prog_1_method_36_code 20 (.aload_n 2) 1 21 := by decide +kernel
theorem d_S_judge_21 : dI prog_1_method_36_code 21 (.invokevirtual 207) 3 24 := by decide +kernel
theorem d_S_judge_24 : dJ prog_1_method_36_code 24 (.ifCond .eq 9) 9 27 33 := by decide +kernel
theorem d_S_judge_27 : dI prog_1_method_36_code 27 (.aload_n 0) 1 28 := by decide +kernel
theorem d_S_judge_28 : dI prog_1_method_36_code 28 (.iconst 5) 1 29 ∧ Int32.ofInt 5 = 5 := by decide +kernel
theorem d_S_judge_29 : dI prog_1_method_36_code 29 (.invokevirtual 67) 3 32 := by decide +kernel
theorem d_S_judge_32 : decode prog_1_method_36_code 32 = .ok (.ireturn, 1) := by decide +kernel
theorem d_S_judge_33 : dI prog_1_method_36_code 33 (.aload_n 0) 1 34 := by decide +kernel
theorem d_S_judge_34 : dI prog_1_method_36_code 34 (.getfield 36) 3 37 := by decide +kernel
theorem d_S_judge_37 : dI prog_1_method_36_code 37 (.aload_n 0) 1 38 := by decide +kernel
theorem d_S_judge_38 : dI prog_1_method_36_code 38 (.getfield 26) 3 41 := by decide +kernel
theorem d_S_judge_41 : dI prog_1_method_36_code 41 (.invokevirtual 122) 3 44 := by decide +kernel
theorem d_S_judge_44 : dI prog_1_method_36_code 44 (.iconst 0) 1 45 ∧ Int32.ofInt 0 = 0 := by decide +kernel
theorem d_S_judge_45 : dI prog_1_method_36_code 45 (.istore_n 3) 1 46 := by decide +kernel
theorem d_S_judge_46 : dI prog_1_method_36_code 46 (.iload_n 3) 1 47 := by decide +kernel
theorem d_S_judge_47 : dI prog_1_method_36_code 47 (.aload_n 2) 1 48 := by decide +kernel
theorem d_S_judge_48 : dI prog_1_method_36_code 48 (.getfield 204) 3 51 := by decide +kernel
theorem d_S_judge_51 : dJ prog_1_method_36_code 51 (.if_icmp .ge 46) 46 54 97 := by decide +kernel
theorem d_S_judge_54 : dI prog_1_method_36_code 54 (.aload_n 0) 1 55 := by decide +kernel
theorem d_S_judge_55 : dI prog_1_method_36_code 55 (.getfield 10) 3 58 := by decide +kernel
theorem d_S_judge_58 : dI prog_1_method_36_code 58 (.aload_n 0) 1 59 := by decide +kernel
theorem d_S_judge_59 : dI prog_1_method_36_code 59 (.getfield 36) 3 62 := by decide +kernel
theorem d_S_judge_62 : dI prog_1_method_36_code 62 (.iload_n 3) 1 63 := by decide +kernel
theorem d_S_judge_63 : dI prog_1_method_36_code 63 (.invokevirtual 233) 3 66 := by decide +kernel
theorem d_S_judge_66 : dJ prog_1_method_36_code 66 (.ifCond .eq 21) 21 69 87 := by decide +kernel
theorem d_S_judge_69 : dI prog_1_method_36_code 69 (.aload_n 0) 1 70 := by decide +kernel
theorem d_S_judge_70 : dI prog_1_method_36_code 70 (.getfield 36) 3 73 := by decide +kernel
theorem d_S_judge_73 : dI prog_1_method_36_code 73 (.getfield 71) 3 76 := by decide +kernel
theorem d_S_judge_76 : dI prog_1_method_36_code 76 (.iconst 0) 1 77 ∧ Int32.ofInt 0 = 0 := by decide +kernel
theorem d_S_judge_77 : dI prog_1_method_36_code 77 .iaload 1 78 := by decide +kernel
theorem d_S_judge_78 : dI prog_1_method_36_code 78 (.aload_n 2) 1 79 := by decide +kernel
theorem d_S_judge_79 : dI prog_1_method_36_code 79 (.getfield 213) 3 82 := by decide +kernel
theorem d_S_judge_82 : dI prog_1_method_36_code 82 (.iload_n 3) 1 83 := by decide +kernel
theorem d_S_judge_83 : dI prog_1_method_36_code 83 .iaload 1 84 := by decide +kernel
theorem d_S_judge_84 : dJ prog_1_method_36_code 84 (.if_icmp .eq 7) 7 87 91 := by decide +kernel
theorem d_S_judge_87 : dI prog_1_method_36_code 87 (.iconst 1) 1 88 ∧ Int32.ofInt 1 = 1 := by decide +kernel
theorem d_S_judge_88 : dI prog_1_method_36_code 88 (.iload_n 3) 1 89 := by decide +kernel
theorem d_S_judge_89 : dI prog_1_method_36_code 89 .iadd 1 90 := by decide +kernel
theorem d_S_judge_90 : decode prog_1_method_36_code 90 = .ok (.ireturn, 1) := by decide +kernel
theorem d_S_judge_91 : dI prog_1_method_36_code 91 (.iinc 3 1) 3 94 ∧ Int32.ofInt 1 = 1 := by decide +kernel
theorem d_S_judge_94 : dJ prog_1_method_36_code 94 (.goto (-48)) (-48) 97 46 := by decide +kernel
theorem d_S_judge_97 : dI prog_1_method_36_code 97 (.iconst 0) 1 98 ∧ Int32.ofInt 0 = 0 := by decide +kernel
theorem d_S_judge_98 : decode prog_1_method_36_code 98 = .ok (.ireturn, 1) := by decide +kernel
theorem d_S_image_0 : dI prog_1_method_37_code 0 (.aload_n 0) 1 1 := by decide +kernel
theorem d_S_image_1 : dI prog_1_method_37_code 1 (.getfield 16) 3 4 := by decide +kernel
theorem d_S_image_4 : dI prog_1_method_37_code 4 (.aload_n 0) 1 5 := by decide +kernel
theorem d_S_image_5 : dI prog_1_method_37_code 5 (.getfield 10) 3 8 := by decide +kernel
theorem d_S_image_8 : dI prog_1_method_37_code 8 (.invokevirtual 144) 3 11 := by decide +kernel
theorem d_S_image_11 : dI prog_1_method_37_code 11 (.aload_n 0) 1 12 := by decide +kernel
theorem d_S_image_12 : dI prog_1_method_37_code 12 (.iconst 1) 1 13 ∧ Int32.ofInt 1 = 1 := by decide +kernel
theorem d_S_image_13 : dI prog_1_method_37_code 13 (.putfield 237) 3 16 := by decide +kernel
theorem d_S_image_16 : dI prog_1_method_37_code 16 (.iconst 1) 1 17 ∧ Int32.ofInt 1 = 1 := by decide +kernel
theorem d_S_image_17 : decode prog_1_method_37_code 17 = .ok (.ireturn, 1) := by decide +kernel
theorem d_S_undo_0 : dI prog_1_method_38_code 0 (.aload_n 0) 1 1 := by decide +kernel
theorem d_S_undo_1 : dI prog_1_method_38_code 1 (.getfield 237) 3 4 := by decide +kernel
theorem d_S_undo_4 : dJ prog_1_method_38_code 4 (.ifCond .ne 9) 9 7 13 := by decide +kernel
theorem d_S_undo_7 : dI prog_1_method_38_code 7 (.aload_n 0) 1 8 := by decide +kernel
theorem d_S_undo_8 : dI prog_1_method_38_code 8 (.iconst 3) 1 9 ∧ Int32.ofInt 3 = 3 := by decide +kernel
theorem d_S_undo_9 : dI prog_1_method_38_code 9 (.invokevirtual 67) 3 12 := by decide +kernel
theorem d_S_undo_12 : decode prog_1_method_38_code 12 = .ok (.ireturn, 1) := by decide +kernel
theorem d_S_undo_13 : dI prog_1_method_38_code 13 (.aload_n 0) 1 14 := by decide +kernel
theorem d_S_undo_14 : dI prog_1_method_38_code 14 (.getfield 10) 3 17 := by decide +kernel
theorem d_S_undo_17 : dI prog_1_method_38_code 17 (.aload_n 0) 1 18 := by decide +kernel
theorem d_S_undo_18 : dI prog_1_method_38_code 18 (.getfield 16) 3 21 := by decide +kernel
theorem d_S_undo_21 : dI prog_1_method_38_code 21 (.invokevirtual 144) 3 24 := by decide +kernel
theorem d_S_undo_24 : dI prog_1_method_38_code 24 (.aload_n 0) 1 25 := by decide +kernel
theorem d_S_undo_25 : dI prog_1_method_38_code 25 (.getfield 26) 3 28 := by decide +kernel
theorem d_S_undo_28 : dI prog_1_method_38_code 28 (.getfield 71) 3 31 := by decide +kernel
theorem d_S_undo_31 : dI prog_1_method_38_code 31 (.bipush 7) 2 33 ∧ (Int8.ofInt 7).toInt32 = 7 := by decide +kernel
theorem d_S_undo_33 : dI prog_1_method_38_code 33 .iaload 1 34 := by decide +kernel
theorem d_S_undo_34 : decode prog_1_method_38_code 34 = .ok (.ireturn, 1) := by decide +kernel
theorem d_S_tear_0 : dI prog_1_method_39_code 0 (.aload_n 0) 1 1 := by decide +kernel
theorem d_S_tear_1 : dI prog_1_method_39_code 1 (.getfield 237) 3 4 := by decide +kernel
theorem d_S_tear_4 : dJ prog_1_method_39_code 4 (.ifCond .eq 7) 7 7 11 := by decide +kernel
theorem d_S_tear_7 : dI prog_1_method_39_code 7 (.iconst 1) 1 8 ∧ Int32.ofInt 1 = 1 := by decide +kernel
theorem d_S_tear_8 : dJ prog_1_method_39_code 8 (.goto 4) 4 11 12 := by decide +kernel
theorem d_S_tear_11 : dI prog_1_method_39_code 11 (.iconst 0) 1 12 ∧ Int32.ofInt 0 = 0 := by decide +kernel
theorem d_S_tear_12 : dI prog_1_method_39_code 12 (.istore_n 1) 1 13 := by decide +kernel
theorem d_S_tear_13 : dI prog_1_method_39_code 13 (.aload_n 0) 1 14 := by decide +kernel
theorem d_S_tear_14 : dI prog_1_method_39_code 14 (.iconst 0) 1 15 ∧ Int32.ofInt 0 = 0 := by decide +kernel
theorem d_S_tear_15 : dI prog_1_method_39_code 15 (.putfield 237) 3 18 := by decide +kernel
theorem d_S_tear_18 : dI prog_1_method_39_code 18 (.iload_n 1) 1 19 := by decide +kernel
theorem d_S_tear_19 : decode prog_1_method_39_code 19 = .ok (.ireturn, 1) := by decide +kernel
theorem d_S_count_0 : dI prog_1_method_40_code 0 (.iload_n 1) 1 1 := by decide +kernel
theorem d_S_count_1 : decode prog_1_method_40_code 1 = .ok (.tableswitch 93 0 5 #[39, 47, 58, 69, 77, 85], 39) := by decide +kernel
theorem d_S_count_40 : dI prog_1_method_40_code 40 (.aload_n 0) 1 41 := by decide +kernel
theorem d_S_count_41 : dI prog_1_method_40_code 41 (.getfield 10) 3 44 := by decide +kernel
theorem d_S_count_44 : dI prog_1_method_40_code 44 (.getfield 151) 3 47 := by decide +kernel
theorem d_S_count_47 : decode prog_1_method_40_code 47 = .ok (.ireturn, 1) := by decide +kernel
theorem d_S_count_48 : dI prog_1_method_40_code 48 (.aload_n 0) 1 49 := by decide +kernel
theorem d_S_count_49 : dI prog_1_method_40_code 49 (.getfield 10) 3 52 := by decide +kernel
theorem d_S_count_52 : dI prog_1_method_40_code 52 (.getfield 107) 3 55 := by decide +kernel
theorem d_S_count_55 : dI prog_1_method_40_code 55 (.invokestatic 240) 3 58 := by decide +kernel
theorem d_S_count_58 : decode prog_1_method_40_code 58 = .ok (.ireturn, 1) := by decide +kernel
theorem d_S_count_59 : dI prog_1_method_40_code 59 (.aload_n 0) 1 60 := by decide +kernel
theorem d_S_count_60 : dI prog_1_method_40_code 60 (.getfield 10) 3 63 := by decide +kernel
theorem d_S_count_63 : dI prog_1_method_40_code 63 (.getfield 190) 3 66 := by decide +kernel
theorem d_S_count_66 : dI prog_1_method_40_code 66 (.invokestatic 240) 3 69 := by decide +kernel
theorem d_S_count_69 : decode prog_1_method_40_code 69 = .ok (.ireturn, 1) := by decide +kernel
theorem d_S_count_70 : dI prog_1_method_40_code 70 (.aload_n 0) 1 71 := by decide +kernel
theorem d_S_count_71 : dI prog_1_method_40_code 71 (.getfield 49) 3 74 := by decide +kernel
theorem d_S_count_74 : dI prog_1_method_40_code 74 (.getfield 137) 3 77 := by decide +kernel
theorem d_S_count_77 : decode prog_1_method_40_code 77 = .ok (.ireturn, 1) := by decide +kernel
theorem d_S_count_78 : dI prog_1_method_40_code 78 (.aload_n 0) 1 79 := by decide +kernel
theorem d_S_count_79 : dI prog_1_method_40_code 79 (.getfield 10) 3 82 := by decide +kernel
theorem d_S_count_82 : dI prog_1_method_40_code 82 (.getfield 184) 3 85 := by decide +kernel
theorem d_S_count_85 : decode prog_1_method_40_code 85 = .ok (.ireturn, 1) := by decide +kernel
theorem d_S_count_86 : dI prog_1_method_40_code 86 (.aload_n 0) 1 87 := by decide +kernel
theorem d_S_count_87 : dI prog_1_method_40_code 87 (.getfield 10) 3 90 := by decide +kernel
theorem d_S_count_90 : dI prog_1_method_40_code 90 (.invokevirtual 101) 3 93 := by decide +kernel
theorem d_S_count_93 : decode prog_1_method_40_code 93 = .ok (.ireturn, 1) := by decide +kernel
theorem d_S_count_94 : dI prog_1_method_40_code 94 (.aload_n 0) 1 95 := by decide +kernel
theorem d_S_count_95 : dI prog_1_method_40_code 95 (.iconst 0) 1 96 ∧ Int32.ofInt 0 = 0 := by decide +kernel
theorem d_S_count_96 : dI prog_1_method_40_code 96 (.invokevirtual 67) 3 99 := by decide +kernel
theorem d_S_count_99 : decode prog_1_method_40_code 99 = .ok (.ireturn, 1) := by decide +kernel
theorem d_S_status_0 : dI prog_1_method_41_code 0 (.iload_n 1) 1 1 := by decide +kernel
theorem d_S_status_1 : dI prog_1_method_41_code 1 (.iconst (-1)) 1 2 ∧ Int32.ofInt (-1) = (-1) := by decide +kernel
theorem d_S_status_2 : dJ prog_1_method_41_code 2 (.if_icmp .lt 9) 9 5 11 := by decide +kernel
theorem d_S_status_5 : dI prog_1_method_41_code 5 (.iload_n 1) 1 6 := by decide +kernel
theorem d_S_status_6 : dI prog_1_method_41_code 6 (.bipush 7) 2 8 ∧ (Int8.ofInt 7).toInt32 = 7 := by decide +kernel
theorem d_S_status_8 : dJ prog_1_method_41_code 8 (.if_icmp .lt 9) 9 11 17 := by decide +kernel
theorem d_S_status_11 : dI prog_1_method_41_code 11 (.aload_n 0) 1 12 := by decide +kernel
theorem d_S_status_12 : dI prog_1_method_41_code 12 (.iconst 0) 1 13 ∧ Int32.ofInt 0 = 0 := by decide +kernel
theorem d_S_status_13 : dI prog_1_method_41_code 13 (.invokevirtual 67) 3 16 := by decide +kernel
theorem d_S_status_16 : decode prog_1_method_41_code 16 = .ok (.ireturn, 1) := by decide +kernel
theorem d_S_status_17 : dI prog_1_method_41_code 17 (.iload_n 1) 1 18 := by decide +kernel
theorem d_S_status_18 : dJ prog_1_method_41_code 18 (.ifCond .lt 10) 10 21 28 := by decide +kernel
theorem d_S_status_21 : dI prog_1_method_41_code 21 (.aload_n 0) 1 22 := by decide +kernel
theorem d_S_status_22 : dI prog_1_method_41_code 22 (.getfield 60) 3 25 := by decide +kernel
theorem d_S_status_25 : dI prog_1_method_41_code 25 (.iload_n 1) 1 26 := by decide +kernel
theorem d_S_status_26 : dI prog_1_method_41_code 26 .iaload 1 27 := by decide +kernel
theorem d_S_status_27 : decode prog_1_method_41_code 27 = .ok (.ireturn, 1) := by decide +kernel
theorem d_S_status_28 : dI prog_1_method_41_code 28 (.iconst 0) 1 29 ∧ Int32.ofInt 0 = 0 := by decide +kernel
theorem d_S_status_29 : dI prog_1_method_41_code 29 (.istore_n 2) 1 30 := by decide +kernel
theorem d_S_status_30 : dI prog_1_method_41_code 30 (.iconst 0) 1 31 ∧ Int32.ofInt 0 = 0 := by decide +kernel
theorem d_S_status_31 : dI prog_1_method_41_code 31 (.istore_n 3) 1 32 := by decide +kernel
theorem d_S_status_32 : dI prog_1_method_41_code 32 (.iload_n 3) 1 33 := by decide +kernel
theorem d_S_status_33 : dI prog_1_method_41_code 33 (.bipush 7) 2 35 ∧ (Int8.ofInt 7).toInt32 = 7 := by decide +kernel
theorem d_S_status_35 : dJ prog_1_method_41_code 35 (.if_icmp .ge 18) 18 38 53 := by decide +kernel
theorem d_S_status_38 : dI prog_1_method_41_code 38 (.iload_n 2) 1 39 := by decide +kernel
theorem d_S_status_39 : dI prog_1_method_41_code 39 (.aload_n 0) 1 40 := by decide +kernel
theorem d_S_status_40 : dI prog_1_method_41_code 40 (.getfield 60) 3 43 := by decide +kernel
theorem d_S_status_43 : dI prog_1_method_41_code 43 (.iload_n 3) 1 44 := by decide +kernel
theorem d_S_status_44 : dI prog_1_method_41_code 44 .iaload 1 45 := by decide +kernel
theorem d_S_status_45 : dI prog_1_method_41_code 45 .iadd 1 46 := by decide +kernel
theorem d_S_status_46 : dI prog_1_method_41_code 46 (.istore_n 2) 1 47 := by decide +kernel
theorem d_S_status_47 : dI prog_1_method_41_code 47 (.iinc 3 1) 3 50 ∧ Int32.ofInt 1 = 1 := by decide +kernel
theorem d_S_status_50 : dJ prog_1_method_41_code 50 (.goto (-18)) (-18) 53 32 := by decide +kernel
theorem d_S_status_53 : dI prog_1_method_41_code 53 (.iload_n 2) 1 54 := by decide +kernel
theorem d_S_status_54 : decode prog_1_method_41_code 54 = .ok (.ireturn, 1) := by decide +kernel
theorem d_S_finding_0 : dI prog_1_method_42_code 0 (.iload_n 1) 1 1 := by decide +kernel
theorem d_S_finding_1 : dJ prog_1_method_42_code 1 (.ifCond .lt 19) 19 4 20 := by decide +kernel
theorem d_S_finding_4 : dI prog_1_method_42_code 4 (.iload_n 1) 1 5 := by decide +kernel
theorem d_S_finding_5 : dI prog_1_method_42_code 5 (.bipush 7) 2 7 ∧ (Int8.ofInt 7).toInt32 = 7 := by decide +kernel
theorem d_S_finding_7 : dJ prog_1_method_42_code 7 (.if_icmp .ge 13) 13 10 20 := by decide +kernel
theorem d_S_finding_10 : dI prog_1_method_42_code 10 (.aload_n 0) 1 11 := by decide +kernel
theorem d_S_finding_11 : dI prog_1_method_42_code 11 (.getfield 60) 3 14 := by decide +kernel
theorem d_S_finding_14 : dI prog_1_method_42_code 14 (.iload_n 1) 1 15 := by decide +kernel
theorem d_S_finding_15 : dI prog_1_method_42_code 15 .dup2 1 16 := by decide +kernel
theorem d_S_finding_16 : dI prog_1_method_42_code 16 .iaload 1 17 := by decide +kernel
theorem d_S_finding_17 : dI prog_1_method_42_code 17 (.iconst 1) 1 18 ∧ Int32.ofInt 1 = 1 := by decide +kernel
theorem d_S_finding_18 : dI prog_1_method_42_code 18 .iadd 1 19 := by decide +kernel
theorem d_S_finding_19 : dI prog_1_method_42_code 19 .iastore 1 20 := by decide +kernel
theorem d_S_finding_20 : dI prog_1_method_42_code 20 (.ldc 244) 2 22 := by decide +kernel
theorem d_S_finding_22 : dI prog_1_method_42_code 22 (.iload_n 1) 1 23 := by decide +kernel
theorem d_S_finding_23 : dI prog_1_method_42_code 23 .isub 1 24 := by decide +kernel
theorem d_S_finding_24 : decode prog_1_method_42_code 24 = .ok (.ireturn, 1) := by decide +kernel
theorem d_S_timesTillOut_0 : dI prog_1_method_43_code 0 (.aload_n 0) 1 1 := by decide +kernel
theorem d_S_timesTillOut_1 : dI prog_1_method_43_code 1 (.getfield 36) 3 4 := by decide +kernel
theorem d_S_timesTillOut_4 : dI prog_1_method_43_code 4 (.aload_n 0) 1 5 := by decide +kernel
theorem d_S_timesTillOut_5 : dI prog_1_method_43_code 5 (.getfield 26) 3 8 := by decide +kernel
theorem d_S_timesTillOut_8 : dI prog_1_method_43_code 8 (.invokevirtual 122) 3 11 := by decide +kernel
theorem d_S_timesTillOut_11 : dI prog_1_method_43_code 11 (.iconst 0) 1 12 ∧ Int32.ofInt 0 = 0 := by decide +kernel
theorem d_S_timesTillOut_12 : dI prog_1_method_43_code 12 (.istore_n 3) 1 13 := by decide +kernel
theorem d_S_timesTillOut_13 : dI prog_1_method_43_code 13 (.iload_n 3) 1 14 := by decide +kernel
theorem d_S_timesTillOut_14 : dI prog_1_method_43_code 14 (.iload_n 2) 1 15 := by decide +kernel
theorem d_S_timesTillOut_15 : dJ prog_1_method_43_code 15 (.if_icmp .ge 20) 20 18 35 := by decide +kernel
theorem d_S_timesTillOut_18 : dI prog_1_method_43_code 18 (.aload_n 0) 1 19 := by decide +kernel
theorem d_S_timesTillOut_19 : dI prog_1_method_43_code 19 (.getfield 36) 3 22 := by decide +kernel
theorem d_S_timesTillOut_22 : dI prog_1_method_43_code 22 (.iload_n 1) 1 23 := by decide +kernel
theorem d_S_timesTillOut_23 : dI prog_1_method_43_code 23 (.invokevirtual 119) 3 26 := by decide +kernel
theorem d_S_timesTillOut_26 : dJ prog_1_method_43_code 26 (.ifCond .eq 9) 9 29 35 := by decide +kernel
theorem d_S_timesTillOut_29 : dI prog_1_method_43_code 29 (.iinc 3 1) 3 32 ∧ Int32.ofInt 1 = 1 := by decide +kernel
theorem d_S_timesTillOut_32 : dJ prog_1_method_43_code 32 (.goto (-19)) (-19) 35 13 := by decide +kernel
theorem d_S_timesTillOut_35 : dI prog_1_method_43_code 35 (.aload_n 0) 1 36 := by decide +kernel
theorem d_S_timesTillOut_36 : dI prog_1_method_43_code 36 (.getfield 36) 3 39 := by decide +kernel
theorem d_S_timesTillOut_39 : dI prog_1_method_43_code 39 (.invokevirtual 94) 3 42 := by decide +kernel
theorem d_S_timesTillOut_42 : dJ prog_1_method_43_code 42 (.ifCond .eq 7) 7 45 49 := by decide +kernel
theorem d_S_timesTillOut_45 : dI prog_1_method_43_code 45 (.iload_n 3) 1 46 := by decide +kernel
theorem d_S_timesTillOut_46 : dJ prog_1_method_43_code 46 (.goto 4) 4 49 50 := by decide +kernel
theorem d_S_timesTillOut_49 : dI prog_1_method_43_code 49 (.iconst (-1)) 1 50 ∧ Int32.ofInt (-1) = (-1) := by decide +kernel
theorem d_S_timesTillOut_50 : decode prog_1_method_43_code 50 = .ok (.ireturn, 1) := by decide +kernel
theorem d_S_filledOf_0 : dI prog_1_method_44_code 0 (.iconst 0) 1 1 ∧ Int32.ofInt 0 = 0 := by decide +kernel
theorem d_S_filledOf_1 : dI prog_1_method_44_code 1 (.istore_n 1) 1 2 := by decide +kernel
theorem d_S_filledOf_2 : dI prog_1_method_44_code 2 (.iconst 0) 1 3 ∧ Int32.ofInt 0 = 0 := by decide +kernel
theorem d_S_filledOf_3 : dI prog_1_method_44_code 3 (.istore_n 2) 1 4 := by decide +kernel
theorem d_S_filledOf_4 : dI prog_1_method_44_code 4 (.iload_n 2) 1 5 := by decide +kernel
theorem d_S_filledOf_5 : dI prog_1_method_44_code 5 (.aload_n 0) 1 6 := by decide +kernel
theorem d_S_filledOf_6 : dI prog_1_method_44_code 6 .arraylength 1 7 := by decide +kernel
theorem d_S_filledOf_7 : dJ prog_1_method_44_code 7 (.if_icmp .ge 19) 19 10 26 := by decide +kernel
theorem d_S_filledOf_10 : dI prog_1_method_44_code 10 (.aload_n 0) 1 11 := by decide +kernel
theorem d_S_filledOf_11 : dI prog_1_method_44_code 11 (.iload_n 2) 1 12 := by decide +kernel
theorem d_S_filledOf_12 : dI prog_1_method_44_code 12 .iaload 1 13 := by decide +kernel
theorem d_S_filledOf_13 : dI prog_1_method_44_code 13 (.iconst (-1)) 1 14 ∧ Int32.ofInt (-1) = (-1) := by decide +kernel
theorem d_S_filledOf_14 : dJ prog_1_method_44_code 14 (.if_icmp .eq 6) 6 17 20 := by decide +kernel
theorem d_S_filledOf_17 : dI prog_1_method_44_code 17 (.iinc 1 1) 3 20 ∧ Int32.ofInt 1 = 1 := by decide +kernel
theorem d_S_filledOf_20 : dI prog_1_method_44_code 20 (.iinc 2 1) 3 23 ∧ Int32.ofInt 1 = 1 := by decide +kernel
theorem d_S_filledOf_23 : dJ prog_1_method_44_code 23 (.goto (-19)) (-19) 26 4 := by decide +kernel
theorem d_S_filledOf_26 : dI prog_1_method_44_code 26 (.iload_n 1) 1 27 := by decide +kernel
theorem d_S_filledOf_27 : decode prog_1_method_44_code 27 = .ok (.ireturn, 1) := by decide +kernel
theorem d_S_isYard_0 : dI prog_1_method_45_code 0 (.iload_n 0) 1 1 := by decide +kernel
theorem d_S_isYard_1 : dJ prog_1_method_45_code 1 (.ifCond .lt 13) 13 4 14 := by decide +kernel
theorem d_S_isYard_4 : dI prog_1_method_45_code 4 (.iload_n 0) 1 5 := by decide +kernel
theorem d_S_isYard_5 : dI prog_1_method_45_code 5 (.bipush 40) 2 7 ∧ (Int8.ofInt 40).toInt32 = 40 := by decide +kernel
theorem d_S_isYard_7 : dJ prog_1_method_45_code 7 (.if_icmp .ge 7) 7 10 14 := by decide +kernel
theorem d_S_isYard_10 : dI prog_1_method_45_code 10 (.iconst 1) 1 11 ∧ Int32.ofInt 1 = 1 := by decide +kernel
theorem d_S_isYard_11 : dJ prog_1_method_45_code 11 (.goto 4) 4 14 15 := by decide +kernel
theorem d_S_isYard_14 : dI prog_1_method_45_code 14 (.iconst 0) 1 15 ∧ Int32.ofInt 0 = 0 := by decide +kernel
theorem d_S_isYard_15 : decode prog_1_method_45_code 15 = .ok (.ireturn, 1) := by decide +kernel
theorem d_S_isSlot_0 : dI prog_1_method_46_code 0 (.iload_n 0) 1 1 := by decide +kernel
theorem d_S_isSlot_1 : dJ prog_1_method_46_code 1 (.ifCond .lt 13) 13 4 14 := by decide +kernel
theorem d_S_isSlot_4 : dI prog_1_method_46_code 4 (.iload_n 0) 1 5 := by decide +kernel
theorem d_S_isSlot_5 : dI prog_1_method_46_code 5 (.bipush 10) 2 7 ∧ (Int8.ofInt 10).toInt32 = 10 := by decide +kernel
theorem d_S_isSlot_7 : dJ prog_1_method_46_code 7 (.if_icmp .ge 7) 7 10 14 := by decide +kernel
theorem d_S_isSlot_10 : dI prog_1_method_46_code 10 (.iconst 1) 1 11 ∧ Int32.ofInt 1 = 1 := by decide +kernel
theorem d_S_isSlot_11 : dJ prog_1_method_46_code 11 (.goto 4) 4 14 15 := by decide +kernel
theorem d_S_isSlot_14 : dI prog_1_method_46_code 14 (.iconst 0) 1 15 ∧ Int32.ofInt 0 = 0 := by decide +kernel
theorem d_S_isSlot_15 : decode prog_1_method_46_code 15 = .ok (.ireturn, 1) := by decide +kernel
theorem d_S_isSpot_0 : dI prog_1_method_47_code 0 (.iload_n 0) 1 1 := by decide +kernel
theorem d_S_isSpot_1 : dJ prog_1_method_47_code 1 (.ifCond .lt 13) 13 4 14 := by decide +kernel
theorem d_S_isSpot_4 : dI prog_1_method_47_code 4 (.iload_n 0) 1 5 := by decide +kernel
theorem d_S_isSpot_5 : dI prog_1_method_47_code 5 (.bipush 10) 2 7 ∧ (Int8.ofInt 10).toInt32 = 10 := by decide +kernel
theorem d_S_isSpot_7 : dJ prog_1_method_47_code 7 (.if_icmp .ge 7) 7 10 14 := by decide +kernel
theorem d_S_isSpot_10 : dI prog_1_method_47_code 10 (.iconst 1) 1 11 ∧ Int32.ofInt 1 = 1 := by decide +kernel
theorem d_S_isSpot_11 : dJ prog_1_method_47_code 11 (.goto 4) 4 14 15 := by decide +kernel
theorem d_S_isSpot_14 : dI prog_1_method_47_code 14 (.iconst 0) 1 15 ∧ Int32.ofInt 0 = 0 := by decide +kernel
theorem d_S_isSpot_15 : decode prog_1_method_47_code 15 = .ok (.ireturn, 1) := by decide +kernel
theorem d_S_isSheet_0 : dI prog_1_method_48_code 0 (.iload_n 0) 1 1 := by decide +kernel
theorem d_S_isSheet_1 : dJ prog_1_method_48_code 1 (.ifCond .lt 12) 12 4 13 := by decide +kernel
theorem d_S_isSheet_4 : dI prog_1_method_48_code 4 (.iload_n 0) 1 5 := by decide +kernel
theorem d_S_isSheet_5 : dI prog_1_method_48_code 5 (.iconst 4) 1 6 ∧ Int32.ofInt 4 = 4 := by decide +kernel
theorem d_S_isSheet_6 : dJ prog_1_method_48_code 6 (.if_icmp .ge 7) 7 9 13 := by decide +kernel
theorem d_S_isSheet_9 : dI prog_1_method_48_code 9 (.iconst 1) 1 10 ∧ Int32.ofInt 1 = 1 := by decide +kernel
theorem d_S_isSheet_10 : dJ prog_1_method_48_code 10 (.goto 4) 4 13 14 := by decide +kernel
theorem d_S_isSheet_13 : dI prog_1_method_48_code 13 (.iconst 0) 1 14 ∧ Int32.ofInt 0 = 0 := by decide +kernel
theorem d_S_isSheet_14 : decode prog_1_method_48_code 14 = .ok (.ireturn, 1) := by decide +kernel
theorem d_S_leastOf_0 : dI prog_1_method_49_code 0 (.iload_n 0) 1 1 := by decide +kernel
theorem d_S_leastOf_1 : dI prog_1_method_49_code 1 (.iconst 5) 1 2 ∧ Int32.ofInt 5 = 5 := by decide +kernel
theorem d_S_leastOf_2 : dJ prog_1_method_49_code 2 (.if_icmp .ne 7) 7 5 9 := by decide +kernel
theorem d_S_leastOf_5 : dI prog_1_method_49_code 5 (.iconst 1) 1 6 ∧ Int32.ofInt 1 = 1 := by decide +kernel
theorem d_S_leastOf_6 : dJ prog_1_method_49_code 6 (.goto 4) 4 9 10 := by decide +kernel
theorem d_S_leastOf_9 : dI prog_1_method_49_code 9 (.iconst 0) 1 10 ∧ Int32.ofInt 0 = 0 := by decide +kernel
theorem d_S_leastOf_10 : decode prog_1_method_49_code 10 = .ok (.ireturn, 1) := by decide +kernel
theorem d_S_mostOf_0 : dI prog_1_method_50_code 0 (.iload_n 0) 1 1 := by decide +kernel
theorem d_S_mostOf_1 : decode prog_1_method_50_code 1 = .ok (.tableswitch 57 0 5 #[39, 42, 45, 48, 51, 54], 39) := by decide +kernel
theorem d_S_mostOf_40 : dI prog_1_method_50_code 40 (.bipush 39) 2 42 ∧ (Int8.ofInt 39).toInt32 = 39 := by decide +kernel
theorem d_S_mostOf_42 : decode prog_1_method_50_code 42 = .ok (.ireturn, 1) := by decide +kernel
theorem d_S_mostOf_43 : dI prog_1_method_50_code 43 (.bipush 99) 2 45 ∧ (Int8.ofInt 99).toInt32 = 99 := by decide +kernel
theorem d_S_mostOf_45 : decode prog_1_method_50_code 45 = .ok (.ireturn, 1) := by decide +kernel
theorem d_S_mostOf_46 : dI prog_1_method_50_code 46 (.bipush 99) 2 48 ∧ (Int8.ofInt 99).toInt32 = 99 := by decide +kernel
theorem d_S_mostOf_48 : decode prog_1_method_50_code 48 = .ok (.ireturn, 1) := by decide +kernel
theorem d_S_mostOf_49 : dI prog_1_method_50_code 49 (.bipush 9) 2 51 ∧ (Int8.ofInt 9).toInt32 = 9 := by decide +kernel
theorem d_S_mostOf_51 : decode prog_1_method_50_code 51 = .ok (.ireturn, 1) := by decide +kernel
theorem d_S_mostOf_52 : dI prog_1_method_50_code 52 (.bipush 8) 2 54 ∧ (Int8.ofInt 8).toInt32 = 8 := by decide +kernel
theorem d_S_mostOf_54 : decode prog_1_method_50_code 54 = .ok (.ireturn, 1) := by decide +kernel
theorem d_S_mostOf_55 : dI prog_1_method_50_code 55 (.bipush 8) 2 57 ∧ (Int8.ofInt 8).toInt32 = 8 := by decide +kernel
theorem d_S_mostOf_57 : decode prog_1_method_50_code 57 = .ok (.ireturn, 1) := by decide +kernel
theorem d_S_mostOf_58 : dI prog_1_method_50_code 58 (.sipush 9999) 3 61 ∧ (Int16.ofInt 9999).toInt32 = 9999 := by decide +kernel
theorem d_S_mostOf_61 : decode prog_1_method_50_code 61 = .ok (.ireturn, 1) := by decide +kernel
theorem d_S_weightOf_0 : dI prog_1_method_51_code 0 (.bipush 20) 2 2 ∧ (Int8.ofInt 20).toInt32 = 20 := by decide +kernel
theorem d_S_weightOf_2 : dI prog_1_method_51_code 2 (.iload_n 0) 1 3 := by decide +kernel
theorem d_S_weightOf_3 : dI prog_1_method_51_code 3 (.iconst 2) 1 4 ∧ Int32.ofInt 2 = 2 := by decide +kernel
theorem d_S_weightOf_4 : dI prog_1_method_51_code 4 .idiv 1 5 := by decide +kernel
theorem d_S_weightOf_5 : dI prog_1_method_51_code 5 .iadd 1 6 := by decide +kernel
theorem d_S_weightOf_6 : dI prog_1_method_51_code 6 (.iload_n 1) 1 7 := by decide +kernel
theorem d_S_weightOf_7 : dI prog_1_method_51_code 7 .iadd 1 8 := by decide +kernel
theorem d_S_weightOf_8 : decode prog_1_method_51_code 8 = .ok (.ireturn, 1) := by decide +kernel
theorem d_S_kindAbove_0 : dI prog_1_method_52_code 0 (.iload_n 0) 1 1 := by decide +kernel
theorem d_S_kindAbove_1 : decode prog_1_method_52_code 1 = .ok (.lookupswitch 31 #[(2, 27), (5, 29)], 27) := by decide +kernel
theorem d_S_kindAbove_28 : dI prog_1_method_52_code 28 (.iconst 1) 1 29 ∧ Int32.ofInt 1 = 1 := by decide +kernel
theorem d_S_kindAbove_29 : decode prog_1_method_52_code 29 = .ok (.ireturn, 1) := by decide +kernel
theorem d_S_kindAbove_30 : dI prog_1_method_52_code 30 (.iconst 2) 1 31 ∧ Int32.ofInt 2 = 2 := by decide +kernel
theorem d_S_kindAbove_31 : decode prog_1_method_52_code 31 = .ok (.ireturn, 1) := by decide +kernel
theorem d_S_kindAbove_32 : dI prog_1_method_52_code 32 (.iconst 0) 1 33 ∧ Int32.ofInt 0 = 0 := by decide +kernel
theorem d_S_kindAbove_33 : decode prog_1_method_52_code 33 = .ok (.ireturn, 1) := by decide +kernel
theorem d_S_isOfKind_0 : dI prog_1_method_53_code 0 (.iload_n 0) 1 1 := by decide +kernel
theorem d_S_isOfKind_1 : dI prog_1_method_53_code 1 (.istore_n 2) 1 2 := by decide +kernel
theorem d_S_isOfKind_2 : dI prog_1_method_53_code 2 (.iconst 0) 1 3 ∧ Int32.ofInt 0 = 0 := by decide +kernel
theorem d_S_isOfKind_3 : dI prog_1_method_53_code 3 (.istore_n 3) 1 4 := by decide +kernel
theorem d_S_isOfKind_4 : dI prog_1_method_53_code 4 (.iload_n 3) 1 5 := by decide +kernel
theorem d_S_isOfKind_5 : dI prog_1_method_53_code 5 (.bipush 8) 2 7 ∧ (Int8.ofInt 8).toInt32 = 8 := by decide +kernel
theorem d_S_isOfKind_7 : dJ prog_1_method_53_code 7 (.if_icmp .ge 23) 23 10 30 := by decide +kernel
theorem d_S_isOfKind_10 : dI prog_1_method_53_code 10 (.iload_n 2) 1 11 := by decide +kernel
theorem d_S_isOfKind_11 : dI prog_1_method_53_code 11 (.iload_n 1) 1 12 := by decide +kernel
theorem d_S_isOfKind_12 : dJ prog_1_method_53_code 12 (.if_icmp .eq 18) 18 15 30 := by decide +kernel
theorem d_S_isOfKind_15 : dI prog_1_method_53_code 15 (.iload_n 2) 1 16 := by decide +kernel
theorem d_S_isOfKind_16 : dJ prog_1_method_53_code 16 (.ifCond .eq 14) 14 19 30 := by decide +kernel
theorem d_S_isOfKind_19 : dI prog_1_method_53_code 19 (.iload_n 2) 1 20 := by decide +kernel
theorem d_S_isOfKind_20 : dI prog_1_method_53_code 20 (.invokestatic 245) 3 23 := by decide +kernel
theorem d_S_isOfKind_23 : dI prog_1_method_53_code 23 (.istore_n 2) 1 24 := by decide +kernel
theorem d_S_isOfKind_24 : dI prog_1_method_53_code 24 (.iinc 3 1) 3 27 ∧ Int32.ofInt 1 = 1 := by decide +kernel
theorem d_S_isOfKind_27 : dJ prog_1_method_53_code 27 (.goto (-23)) (-23) 30 4 := by decide +kernel
theorem d_S_isOfKind_30 : dI prog_1_method_53_code 30 (.iload_n 2) 1 31 := by decide +kernel
theorem d_S_isOfKind_31 : dI prog_1_method_53_code 31 (.iload_n 1) 1 32 := by decide +kernel
theorem d_S_isOfKind_32 : dJ prog_1_method_53_code 32 (.if_icmp .ne 7) 7 35 39 := by decide +kernel
theorem d_S_isOfKind_35 : dI prog_1_method_53_code 35 (.iconst 1) 1 36 ∧ Int32.ofInt 1 = 1 := by decide +kernel
theorem d_S_isOfKind_36 : dJ prog_1_method_53_code 36 (.goto 4) 4 39 40 := by decide +kernel
theorem d_S_isOfKind_39 : dI prog_1_method_53_code 39 (.iconst 0) 1 40 ∧ Int32.ofInt 0 = 0 := by decide +kernel
theorem d_S_isOfKind_40 : decode prog_1_method_53_code 40 = .ok (.ireturn, 1) := by decide +kernel
theorem d_S_workOf_0 : dI prog_1_method_54_code 0 (.iload_n 0) 1 1 := by decide +kernel
theorem d_S_workOf_1 : decode prog_1_method_54_code 1 = .ok (.tableswitch 43 1 5 #[35, 37, 41, 43, 39], 35) := by decide +kernel
theorem d_S_workOf_36 : dI prog_1_method_54_code 36 (.iconst 3) 1 37 ∧ Int32.ofInt 3 = 3 := by decide +kernel
theorem d_S_workOf_37 : decode prog_1_method_54_code 37 = .ok (.ireturn, 1) := by decide +kernel
theorem d_S_workOf_38 : dI prog_1_method_54_code 38 (.iconst 3) 1 39 ∧ Int32.ofInt 3 = 3 := by decide +kernel
theorem d_S_workOf_39 : decode prog_1_method_54_code 39 = .ok (.ireturn, 1) := by decide +kernel
theorem d_S_workOf_40 : dI prog_1_method_54_code 40 (.iconst 4) 1 41 ∧ Int32.ofInt 4 = 4 := by decide +kernel
theorem d_S_workOf_41 : decode prog_1_method_54_code 41 = .ok (.ireturn, 1) := by decide +kernel
theorem d_S_workOf_42 : dI prog_1_method_54_code 42 (.iconst 2) 1 43 ∧ Int32.ofInt 2 = 2 := by decide +kernel
theorem d_S_workOf_43 : decode prog_1_method_54_code 43 = .ok (.ireturn, 1) := by decide +kernel
theorem d_S_workOf_44 : dI prog_1_method_54_code 44 (.iconst 0) 1 45 ∧ Int32.ofInt 0 = 0 := by decide +kernel
theorem d_S_workOf_45 : decode prog_1_method_54_code 45 = .ok (.ireturn, 1) := by decide +kernel
