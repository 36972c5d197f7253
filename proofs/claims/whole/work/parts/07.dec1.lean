theorem d_L_init_0 : dI prog_2_method_1_code 0 (.aload_n 0) 1 1 := by decide +kernel
theorem d_L_init_1 : dI prog_2_method_1_code 1 (.invokespecial 3) 3 4 := by decide +kernel
theorem d_L_init_4 : dI prog_2_method_1_code 4 (.aload_n 0) 1 5 := by decide +kernel
theorem d_L_init_5 : dI prog_2_method_1_code 5 (.bipush 10) 2 7 ∧ (Int8.ofInt 10).toInt32 = 10 := by decide +kernel
theorem d_L_init_7 : dI prog_2_method_1_code 7 (.newarray .int) 2 9 := by decide +kernel
theorem d_L_init_9 : dI prog_2_method_1_code 9 .dup 1 10 := by decide +kernel
theorem d_L_init_10 : dI prog_2_method_1_code 10 (.iconst 0) 1 11 ∧ Int32.ofInt 0 = 0 := by decide +kernel
theorem d_L_init_11 : dI prog_2_method_1_code 11 (.bipush 20) 2 13 ∧ (Int8.ofInt 20).toInt32 = 20 := by decide +kernel
theorem d_L_init_13 : dI prog_2_method_1_code 13 .iastore 1 14 := by decide +kernel
theorem d_L_init_14 : dI prog_2_method_1_code 14 .dup 1 15 := by decide +kernel
theorem d_L_init_15 : dI prog_2_method_1_code 15 (.iconst 1) 1 16 ∧ Int32.ofInt 1 = 1 := by decide +kernel
theorem d_L_init_16 : dI prog_2_method_1_code 16 (.iconst 0) 1 17 ∧ Int32.ofInt 0 = 0 := by decide +kernel
theorem d_L_init_17 : dI prog_2_method_1_code 17 .iastore 1 18 := by decide +kernel
theorem d_L_init_18 : dI prog_2_method_1_code 18 .dup 1 19 := by decide +kernel
theorem d_L_init_19 : dI prog_2_method_1_code 19 (.iconst 2) 1 20 ∧ Int32.ofInt 2 = 2 := by decide +kernel
theorem d_L_init_20 : dI prog_2_method_1_code 20 (.bipush 20) 2 22 ∧ (Int8.ofInt 20).toInt32 = 20 := by decide +kernel
theorem d_L_init_22 : dI prog_2_method_1_code 22 .iastore 1 23 := by decide +kernel
theorem d_L_init_23 : dI prog_2_method_1_code 23 .dup 1 24 := by decide +kernel
theorem d_L_init_24 : dI prog_2_method_1_code 24 (.iconst 3) 1 25 ∧ Int32.ofInt 3 = 3 := by decide +kernel
theorem d_L_init_25 : dI prog_2_method_1_code 25 (.iconst 0) 1 26 ∧ Int32.ofInt 0 = 0 := by decide +kernel
theorem d_L_init_26 : dI prog_2_method_1_code 26 .iastore 1 27 := by decide +kernel
theorem d_L_init_27 : dI prog_2_method_1_code 27 .dup 1 28 := by decide +kernel
theorem d_L_init_28 : dI prog_2_method_1_code 28 (.iconst 4) 1 29 ∧ Int32.ofInt 4 = 4 := by decide +kernel
theorem d_L_init_29 : dI prog_2_method_1_code 29 (.iconst 2) 1 30 ∧ Int32.ofInt 2 = 2 := by decide +kernel
theorem d_L_init_30 : dI prog_2_method_1_code 30 .iastore 1 31 := by decide +kernel
theorem d_L_init_31 : dI prog_2_method_1_code 31 .dup 1 32 := by decide +kernel
theorem d_L_init_32 : dI prog_2_method_1_code 32 (.iconst 5) 1 33 ∧ Int32.ofInt 5 = 5 := by decide +kernel
theorem d_L_init_33 : dI prog_2_method_1_code 33 (.iconst 4) 1 34 ∧ Int32.ofInt 4 = 4 := by decide +kernel
theorem d_L_init_34 : dI prog_2_method_1_code 34 .iastore 1 35 := by decide +kernel
theorem d_L_init_35 : dI prog_2_method_1_code 35 .dup 1 36 := by decide +kernel
theorem d_L_init_36 : dI prog_2_method_1_code 36 (.bipush 6) 2 38 ∧ (Int8.ofInt 6).toInt32 = 6 := by decide +kernel
theorem d_L_init_38 : dI prog_2_method_1_code 38 (.sipush 900) 3 41 ∧ (Int16.ofInt 900).toInt32 = 900 := by decide +kernel
theorem d_L_init_41 : dI prog_2_method_1_code 41 .iastore 1 42 := by decide +kernel
theorem d_L_init_42 : dI prog_2_method_1_code 42 .dup 1 43 := by decide +kernel
theorem d_L_init_43 : dI prog_2_method_1_code 43 (.bipush 7) 2 45 ∧ (Int8.ofInt 7).toInt32 = 7 := by decide +kernel
theorem d_L_init_45 : dI prog_2_method_1_code 45 (.iconst 0) 1 46 ∧ Int32.ofInt 0 = 0 := by decide +kernel
theorem d_L_init_46 : dI prog_2_method_1_code 46 .iastore 1 47 := by decide +kernel
theorem d_L_init_47 : dI prog_2_method_1_code 47 .dup 1 48 := by decide +kernel
theorem d_L_init_48 : dI prog_2_method_1_code 48 (.bipush 8) 2 50 ∧ (Int8.ofInt 8).toInt32 = 8 := by decide +kernel
theorem d_L_init_50 : dI prog_2_method_1_code 50 (.iconst 0) 1 51 ∧ Int32.ofInt 0 = 0 := by decide +kernel
theorem d_L_init_51 : dI prog_2_method_1_code 51 .iastore 1 52 := by decide +kernel
theorem d_L_init_52 : dI prog_2_method_1_code 52 .dup 1 53 := by decide +kernel
theorem d_L_init_53 : dI prog_2_method_1_code 53 (.bipush 9) 2 55 ∧ (Int8.ofInt 9).toInt32 = 9 := by decide +kernel
theorem d_L_init_55 : dI prog_2_method_1_code 55 (.iconst 0) 1 56 ∧ Int32.ofInt 0 = 0 := by decide +kernel
theorem d_L_init_56 : dI prog_2_method_1_code 56 .iastore 1 57 := by decide +kernel
theorem d_L_init_57 : dI prog_2_method_1_code 57 (.putfield 9) 3 60 := by decide +kernel
theorem d_L_init_60 : dI prog_2_method_1_code 60 (.aload_n 0) 1 61 := by decide +kernel
theorem d_L_init_61 : dI prog_2_method_1_code 61 (.aload_n 1) 1 62 := by decide +kernel
theorem d_L_init_62 : dI prog_2_method_1_code 62 (.putfield 15) 3 65 := by decide +kernel
theorem d_L_init_65 : decode prog_2_method_1_code 65 = .ok (.return_, 1) := by decide +kernel
theorem d_L_become_0 : dI prog_2_method_2_code 0 (.aload_n 1) 1 1 := by decide +kernel
theorem d_L_become_1 : dI prog_2_method_2_code 1 (.getfield 9) 3 4 := by decide +kernel
theorem d_L_become_4 : dI prog_2_method_2_code 4 (.iconst 0) 1 5 ∧ Int32.ofInt 0 = 0 := by decide +kernel
theorem d_L_become_5 : dI prog_2_method_2_code 5 (.aload_n 0) 1 6 := by decide +kernel
theorem d_L_become_6 : dI prog_2_method_2_code 6 (.getfield 9) 3 9 := by decide +kernel
theorem d_L_become_9 : dI prog_2_method_2_code 9 (.iconst 0) 1 10 ∧ Int32.ofInt 0 = 0 := by decide +kernel
theorem d_L_become_10 : dI prog_2_method_2_code 10 (.bipush 10) 2 12 ∧ (Int8.ofInt 10).toInt32 = 10 := by decide +kernel
theorem d_L_become_12 : dI prog_2_method_2_code 12 (.invokestatic 18) 3 15 := by decide +kernel
theorem d_L_become_15 : decode prog_2_method_2_code 15 = .ok (.return_, 1) := by decide +kernel
theorem d_L_since_0 : dI prog_2_method_3_code 0 (.iload_n 2) 1 1 := by decide +kernel
theorem d_L_since_1 : dJ prog_2_method_3_code 1 (.ifCond .lt 25) 25 4 26 := by decide +kernel
theorem d_L_since_4 : dI prog_2_method_3_code 4 (.iload_n 2) 1 5 := by decide +kernel
theorem d_L_since_5 : dI prog_2_method_3_code 5 (.bipush 10) 2 7 ∧ (Int8.ofInt 10).toInt32 = 10 := by decide +kernel
theorem d_L_since_7 : dJ prog_2_method_3_code 7 (.if_icmp .ge 19) 19 10 26 := by decide +kernel
theorem d_L_since_10 : dI prog_2_method_3_code 10 (.aload_n 0) 1 11 := by decide +kernel
theorem d_L_since_11 : dI prog_2_method_3_code 11 (.getfield 9) 3 14 := by decide +kernel
theorem d_L_since_14 : dI prog_2_method_3_code 14 (.iload_n 2) 1 15 := by decide +kernel
theorem d_L_since_15 : dI prog_2_method_3_code 15 .iaload 1 16 := by decide +kernel
theorem d_L_since_16 : dI prog_2_method_3_code 16 (.aload_n 1) 1 17 := by decide +kernel
theorem d_L_since_17 : dI prog_2_method_3_code 17 (.getfield 9) 3 20 := by decide +kernel
theorem d_L_since_20 : dI prog_2_method_3_code 20 (.iload_n 2) 1 21 := by decide +kernel
theorem d_L_since_21 : dI prog_2_method_3_code 21 .iaload 1 22 := by decide +kernel
theorem d_L_since_22 : dI prog_2_method_3_code 22 .isub 1 23 := by decide +kernel
theorem d_L_since_23 : dJ prog_2_method_3_code 23 (.goto 4) 4 26 27 := by decide +kernel
theorem d_L_since_26 : dI prog_2_method_3_code 26 (.iconst 0) 1 27 ∧ Int32.ofInt 0 = 0 := by decide +kernel
theorem d_L_since_27 : decode prog_2_method_3_code 27 = .ok (.ireturn, 1) := by decide +kernel
theorem d_L_isOut_0 : dI prog_2_method_4_code 0 (.aload_n 0) 1 1 := by decide +kernel
theorem d_L_isOut_1 : dI prog_2_method_4_code 1 (.getfield 9) 3 4 := by decide +kernel
theorem d_L_isOut_4 : dI prog_2_method_4_code 4 (.iconst 0) 1 5 ∧ Int32.ofInt 0 = 0 := by decide +kernel
theorem d_L_isOut_5 : dI prog_2_method_4_code 5 .iaload 1 6 := by decide +kernel
theorem d_L_isOut_6 : dI prog_2_method_4_code 6 (.invokestatic 24) 3 9 := by decide +kernel
theorem d_L_isOut_9 : dJ prog_2_method_4_code 9 (.ifCond .ne 7) 7 12 16 := by decide +kernel
theorem d_L_isOut_12 : dI prog_2_method_4_code 12 (.iconst 1) 1 13 ∧ Int32.ofInt 1 = 1 := by decide +kernel
theorem d_L_isOut_13 : dJ prog_2_method_4_code 13 (.goto 4) 4 16 17 := by decide +kernel
theorem d_L_isOut_16 : dI prog_2_method_4_code 16 (.iconst 0) 1 17 ∧ Int32.ofInt 0 = 0 := by decide +kernel
theorem d_L_isOut_17 : decode prog_2_method_4_code 17 = .ok (.ireturn, 1) := by decide +kernel
theorem d_L_hour_0 : dI prog_2_method_5_code 0 (.bipush 14) 2 2 ∧ (Int8.ofInt 14).toInt32 = 14 := by decide +kernel
theorem d_L_hour_2 : dI prog_2_method_5_code 2 (.aload_n 0) 1 3 := by decide +kernel
theorem d_L_hour_3 : dI prog_2_method_5_code 3 (.getfield 9) 3 6 := by decide +kernel
theorem d_L_hour_6 : dI prog_2_method_5_code 6 (.bipush 7) 2 8 ∧ (Int8.ofInt 7).toInt32 = 7 := by decide +kernel
theorem d_L_hour_8 : dI prog_2_method_5_code 8 .iaload 1 9 := by decide +kernel
theorem d_L_hour_9 : dI prog_2_method_5_code 9 (.bipush 60) 2 11 ∧ (Int8.ofInt 60).toInt32 = 60 := by decide +kernel
theorem d_L_hour_11 : dI prog_2_method_5_code 11 .idiv 1 12 := by decide +kernel
theorem d_L_hour_12 : dI prog_2_method_5_code 12 .iadd 1 13 := by decide +kernel
theorem d_L_hour_13 : dI prog_2_method_5_code 13 (.bipush 24) 2 15 ∧ (Int8.ofInt 24).toInt32 = 24 := by decide +kernel
theorem d_L_hour_15 : dI prog_2_method_5_code 15 .irem 1 16 := by decide +kernel
theorem d_L_hour_16 : decode prog_2_method_5_code 16 = .ok (.ireturn, 1) := by decide +kernel
theorem d_L_heat_0 : dI prog_2_method_6_code 0 (.aload_n 0) 1 1 := by decide +kernel
theorem d_L_heat_1 : dI prog_2_method_6_code 1 (.invokevirtual 28) 3 4 := by decide +kernel
theorem d_L_heat_4 : dI prog_2_method_6_code 4 (.istore_n 1) 1 5 := by decide +kernel
theorem d_L_heat_5 : dI prog_2_method_6_code 5 (.iload_n 1) 1 6 := by decide +kernel
theorem d_L_heat_6 : dI prog_2_method_6_code 6 (.bipush 10) 2 8 ∧ (Int8.ofInt 10).toInt32 = 10 := by decide +kernel
theorem d_L_heat_8 : dJ prog_2_method_6_code 8 (.if_icmp .lt 11) 11 11 19 := by decide +kernel
theorem d_L_heat_11 : dI prog_2_method_6_code 11 (.iload_n 1) 1 12 := by decide +kernel
theorem d_L_heat_12 : dI prog_2_method_6_code 12 (.bipush 16) 2 14 ∧ (Int8.ofInt 16).toInt32 = 16 := by decide +kernel
theorem d_L_heat_14 : dJ prog_2_method_6_code 14 (.if_icmp .gt 5) 5 17 19 := by decide +kernel
theorem d_L_heat_17 : dI prog_2_method_6_code 17 (.iconst 3) 1 18 ∧ Int32.ofInt 3 = 3 := by decide +kernel
theorem d_L_heat_18 : decode prog_2_method_6_code 18 = .ok (.ireturn, 1) := by decide +kernel
theorem d_L_heat_19 : dI prog_2_method_6_code 19 (.iload_n 1) 1 20 := by decide +kernel
theorem d_L_heat_20 : dI prog_2_method_6_code 20 (.bipush 20) 2 22 ∧ (Int8.ofInt 20).toInt32 = 20 := by decide +kernel
theorem d_L_heat_22 : dJ prog_2_method_6_code 22 (.if_icmp .ge 8) 8 25 30 := by decide +kernel
theorem d_L_heat_25 : dI prog_2_method_6_code 25 (.iload_n 1) 1 26 := by decide +kernel
theorem d_L_heat_26 : dI prog_2_method_6_code 26 (.iconst 5) 1 27 ∧ Int32.ofInt 5 = 5 := by decide +kernel
theorem d_L_heat_27 : dJ prog_2_method_6_code 27 (.if_icmp .gt 7) 7 30 34 := by decide +kernel
theorem d_L_heat_30 : dI prog_2_method_6_code 30 (.iconst 1) 1 31 ∧ Int32.ofInt 1 = 1 := by decide +kernel
theorem d_L_heat_31 : dJ prog_2_method_6_code 31 (.goto 4) 4 34 35 := by decide +kernel
theorem d_L_heat_34 : dI prog_2_method_6_code 34 (.iconst 2) 1 35 ∧ Int32.ofInt 2 = 2 := by decide +kernel
theorem d_L_heat_35 : decode prog_2_method_6_code 35 = .ok (.ireturn, 1) := by decide +kernel
theorem d_L_weight_0 : dI prog_2_method_7_code 0 (.aload_n 0) 1 1 := by decide +kernel
theorem d_L_weight_1 : dI prog_2_method_7_code 1 (.getfield 9) 3 4 := by decide +kernel
theorem d_L_weight_4 : dI prog_2_method_7_code 4 (.iconst 2) 1 5 ∧ Int32.ofInt 2 = 2 := by decide +kernel
theorem d_L_weight_5 : dI prog_2_method_7_code 5 .iaload 1 6 := by decide +kernel
theorem d_L_weight_6 : dI prog_2_method_7_code 6 (.aload_n 0) 1 7 := by decide +kernel
theorem d_L_weight_7 : dI prog_2_method_7_code 7 (.getfield 9) 3 10 := by decide +kernel
theorem d_L_weight_10 : dI prog_2_method_7_code 10 (.iconst 1) 1 11 ∧ Int32.ofInt 1 = 1 := by decide +kernel
theorem d_L_weight_11 : dI prog_2_method_7_code 11 .iaload 1 12 := by decide +kernel
theorem d_L_weight_12 : dI prog_2_method_7_code 12 (.invokestatic 32) 3 15 := by decide +kernel
theorem d_L_weight_15 : decode prog_2_method_7_code 15 = .ok (.ireturn, 1) := by decide +kernel
theorem d_L_gripOf_0 : dI prog_2_method_8_code 0 (.aload_n 0) 1 1 := by decide +kernel
theorem d_L_gripOf_1 : dI prog_2_method_8_code 1 (.invokevirtual 28) 3 4 := by decide +kernel
theorem d_L_gripOf_4 : dI prog_2_method_8_code 4 (.istore_n 3) 1 5 := by decide +kernel
theorem d_L_gripOf_5 : dI prog_2_method_8_code 5 (.iload_n 3) 1 6 := by decide +kernel
theorem d_L_gripOf_6 : dI prog_2_method_8_code 6 (.iconst 4) 1 7 ∧ Int32.ofInt 4 = 4 := by decide +kernel
theorem d_L_gripOf_7 : dJ prog_2_method_8_code 7 (.if_icmp .lt 14) 14 10 21 := by decide +kernel
theorem d_L_gripOf_10 : dI prog_2_method_8_code 10 (.iload_n 3) 1 11 := by decide +kernel
theorem d_L_gripOf_11 : dI prog_2_method_8_code 11 (.bipush 7) 2 13 ∧ (Int8.ofInt 7).toInt32 = 7 := by decide +kernel
theorem d_L_gripOf_13 : dJ prog_2_method_8_code 13 (.if_icmp .gt 8) 8 16 21 := by decide +kernel
theorem d_L_gripOf_16 : dI prog_2_method_8_code 16 (.bipush 20) 2 18 ∧ (Int8.ofInt 20).toInt32 = 20 := by decide +kernel
theorem d_L_gripOf_18 : dJ prog_2_method_8_code 18 (.goto 4) 4 21 22 := by decide +kernel
theorem d_L_gripOf_21 : dI prog_2_method_8_code 21 (.iconst 0) 1 22 ∧ Int32.ofInt 0 = 0 := by decide +kernel
theorem d_L_gripOf_22 : dI prog_2_method_8_code 22 (.istore 4) 2 24 := by decide +kernel
theorem d_L_gripOf_24 : dI prog_2_method_8_code 24 (.iload_n 1) 1 25 := by decide +kernel
theorem d_L_gripOf_25 : dI prog_2_method_8_code 25 (.iconst 3) 1 26 ∧ Int32.ofInt 3 = 3 := by decide +kernel
theorem d_L_gripOf_26 : dI prog_2_method_8_code 26 (.iload_n 2) 1 27 := by decide +kernel
theorem d_L_gripOf_27 : dI prog_2_method_8_code 27 .imul 1 28 := by decide +kernel
theorem d_L_gripOf_28 : dI prog_2_method_8_code 28 .iadd 1 29 := by decide +kernel
theorem d_L_gripOf_29 : dI prog_2_method_8_code 29 (.iload 4) 2 31 := by decide +kernel
theorem d_L_gripOf_31 : dI prog_2_method_8_code 31 .iadd 1 32 := by decide +kernel
theorem d_L_gripOf_32 : decode prog_2_method_8_code 32 = .ok (.ireturn, 1) := by decide +kernel
theorem d_L_minutesOf_0 : dI prog_2_method_9_code 0 (.iload_n 1) 1 1 := by decide +kernel
theorem d_L_minutesOf_1 : decode prog_2_method_9_code 1 = .ok (.tableswitch 78 1 7 #[43, 46, 52, 55, 49, 78, 58], 43) := by decide +kernel
theorem d_L_minutesOf_44 : dI prog_2_method_9_code 44 (.bipush 30) 2 46 ∧ (Int8.ofInt 30).toInt32 = 30 := by decide +kernel
theorem d_L_minutesOf_46 : decode prog_2_method_9_code 46 = .ok (.ireturn, 1) := by decide +kernel
theorem d_L_minutesOf_47 : dI prog_2_method_9_code 47 (.bipush 45) 2 49 ∧ (Int8.ofInt 45).toInt32 = 45 := by decide +kernel
theorem d_L_minutesOf_49 : decode prog_2_method_9_code 49 = .ok (.ireturn, 1) := by decide +kernel
theorem d_L_minutesOf_50 : dI prog_2_method_9_code 50 (.bipush 105) 2 52 ∧ (Int8.ofInt 105).toInt32 = 105 := by decide +kernel
theorem d_L_minutesOf_52 : decode prog_2_method_9_code 52 = .ok (.ireturn, 1) := by decide +kernel
theorem d_L_minutesOf_53 : dI prog_2_method_9_code 53 (.bipush 40) 2 55 ∧ (Int8.ofInt 40).toInt32 = 40 := by decide +kernel
theorem d_L_minutesOf_55 : decode prog_2_method_9_code 55 = .ok (.ireturn, 1) := by decide +kernel
theorem d_L_minutesOf_56 : dI prog_2_method_9_code 56 (.bipush 10) 2 58 ∧ (Int8.ofInt 10).toInt32 = 10 := by decide +kernel
theorem d_L_minutesOf_58 : decode prog_2_method_9_code 58 = .ok (.ireturn, 1) := by decide +kernel
theorem d_L_minutesOf_59 : dI prog_2_method_9_code 59 (.sipush 1440) 3 62 ∧ (Int16.ofInt 1440).toInt32 = 1440 := by decide +kernel
theorem d_L_minutesOf_62 : dI prog_2_method_9_code 62 (.sipush 600) 3 65 ∧ (Int16.ofInt 600).toInt32 = 600 := by decide +kernel
theorem d_L_minutesOf_65 : dI prog_2_method_9_code 65 (.aload_n 0) 1 66 := by decide +kernel
theorem d_L_minutesOf_66 : dI prog_2_method_9_code 66 (.getfield 9) 3 69 := by decide +kernel
theorem d_L_minutesOf_69 : dI prog_2_method_9_code 69 (.bipush 7) 2 71 ∧ (Int8.ofInt 7).toInt32 = 7 := by decide +kernel
theorem d_L_minutesOf_71 : dI prog_2_method_9_code 71 .iaload 1 72 := by decide +kernel
theorem d_L_minutesOf_72 : dI prog_2_method_9_code 72 .iadd 1 73 := by decide +kernel
theorem d_L_minutesOf_73 : dI prog_2_method_9_code 73 (.sipush 1440) 3 76 ∧ (Int16.ofInt 1440).toInt32 = 1440 := by decide +kernel
theorem d_L_minutesOf_76 : dI prog_2_method_9_code 76 .irem 1 77 := by decide +kernel
theorem d_L_minutesOf_77 : dI prog_2_method_9_code 77 .isub 1 78 := by decide +kernel
theorem d_L_minutesOf_78 : decode prog_2_method_9_code 78 = .ok (.ireturn, 1) := by decide +kernel
theorem d_L_minutesOf_79 : dI prog_2_method_9_code 79 (.iconst 1) 1 80 ∧ Int32.ofInt 1 = 1 := by decide +kernel
theorem d_L_minutesOf_80 : decode prog_2_method_9_code 80 = .ok (.ireturn, 1) := by decide +kernel
theorem d_L_drinkOf_0 : dI prog_2_method_10_code 0 (.aload_n 0) 1 1 := by decide +kernel
theorem d_L_drinkOf_1 : dI prog_2_method_10_code 1 (.getfield 9) 3 4 := by decide +kernel
theorem d_L_drinkOf_4 : dI prog_2_method_10_code 4 (.iconst 5) 1 5 ∧ Int32.ofInt 5 = 5 := by decide +kernel
theorem d_L_drinkOf_5 : dI prog_2_method_10_code 5 .iaload 1 6 := by decide +kernel
theorem d_L_drinkOf_6 : dI prog_2_method_10_code 6 (.iload_n 1) 1 7 := by decide +kernel
theorem d_L_drinkOf_7 : dI prog_2_method_10_code 7 (.invokestatic 36) 3 10 := by decide +kernel
theorem d_L_drinkOf_10 : dI prog_2_method_10_code 10 (.iconst 1) 1 11 ∧ Int32.ofInt 1 = 1 := by decide +kernel
theorem d_L_drinkOf_11 : dI prog_2_method_10_code 11 .iadd 1 12 := by decide +kernel
theorem d_L_drinkOf_12 : dI prog_2_method_10_code 12 .imul 1 13 := by decide +kernel
theorem d_L_drinkOf_13 : dI prog_2_method_10_code 13 (.aload_n 0) 1 14 := by decide +kernel
theorem d_L_drinkOf_14 : dI prog_2_method_10_code 14 (.invokevirtual 40) 3 17 := by decide +kernel
theorem d_L_drinkOf_17 : dI prog_2_method_10_code 17 .imul 1 18 := by decide +kernel
theorem d_L_drinkOf_18 : dI prog_2_method_10_code 18 (.aload_n 0) 1 19 := by decide +kernel
theorem d_L_drinkOf_19 : dI prog_2_method_10_code 19 (.iload_n 1) 1 20 := by decide +kernel
theorem d_L_drinkOf_20 : dI prog_2_method_10_code 20 (.invokevirtual 43) 3 23 := by decide +kernel
theorem d_L_drinkOf_23 : dI prog_2_method_10_code 23 .imul 1 24 := by decide +kernel
theorem d_L_drinkOf_24 : dI prog_2_method_10_code 24 (.bipush 60) 2 26 ∧ (Int8.ofInt 60).toInt32 = 60 := by decide +kernel
theorem d_L_drinkOf_26 : dI prog_2_method_10_code 26 .idiv 1 27 := by decide +kernel
theorem d_L_drinkOf_27 : decode prog_2_method_10_code 27 = .ok (.ireturn, 1) := by decide +kernel
theorem d_L_passHours_0 : dI prog_2_method_11_code 0 (.iload_n 1) 1 1 := by decide +kernel
theorem d_L_passHours_1 : dJ prog_2_method_11_code 1 (.ifCond .le 25) 25 4 26 := by decide +kernel
theorem d_L_passHours_4 : dI prog_2_method_11_code 4 (.aload_n 0) 1 5 := by decide +kernel
theorem d_L_passHours_5 : dI prog_2_method_11_code 5 (.getfield 9) 3 8 := by decide +kernel
theorem d_L_passHours_8 : dI prog_2_method_11_code 8 (.bipush 7) 2 10 ∧ (Int8.ofInt 7).toInt32 = 7 := by decide +kernel
theorem d_L_passHours_10 : dI prog_2_method_11_code 10 (.aload_n 0) 1 11 := by decide +kernel
theorem d_L_passHours_11 : dI prog_2_method_11_code 11 (.getfield 9) 3 14 := by decide +kernel
theorem d_L_passHours_14 : dI prog_2_method_11_code 14 (.bipush 7) 2 16 ∧ (Int8.ofInt 7).toInt32 = 7 := by decide +kernel
theorem d_L_passHours_16 : dI prog_2_method_11_code 16 .iaload 1 17 := by decide +kernel
theorem d_L_passHours_17 : dI prog_2_method_11_code 17 (.bipush 60) 2 19 ∧ (Int8.ofInt 60).toInt32 = 60 := by decide +kernel
theorem d_L_passHours_19 : dI prog_2_method_11_code 19 .idiv 1 20 := by decide +kernel
theorem d_L_passHours_20 : dI prog_2_method_11_code 20 (.iload_n 1) 1 21 := by decide +kernel
theorem d_L_passHours_21 : dI prog_2_method_11_code 21 .iadd 1 22 := by decide +kernel
theorem d_L_passHours_22 : dI prog_2_method_11_code 22 (.bipush 60) 2 24 ∧ (Int8.ofInt 60).toInt32 = 60 := by decide +kernel
theorem d_L_passHours_24 : dI prog_2_method_11_code 24 .imul 1 25 := by decide +kernel
theorem d_L_passHours_25 : dI prog_2_method_11_code 25 .iastore 1 26 := by decide +kernel
theorem d_L_passHours_26 : decode prog_2_method_11_code 26 = .ok (.return_, 1) := by decide +kernel
theorem d_L_carriesOut_0 : dI prog_2_method_12_code 0 (.aload_n 0) 1 1 := by decide +kernel
theorem d_L_carriesOut_1 : dI prog_2_method_12_code 1 (.iload_n 1) 1 2 := by decide +kernel
theorem d_L_carriesOut_2 : dI prog_2_method_12_code 2 (.invokevirtual 46) 3 5 := by decide +kernel
theorem d_L_carriesOut_5 : dI prog_2_method_12_code 5 (.istore_n 2) 1 6 := by decide +kernel
theorem d_L_carriesOut_6 : dI prog_2_method_12_code 6 (.aload_n 0) 1 7 := by decide +kernel
theorem d_L_carriesOut_7 : dI prog_2_method_12_code 7 (.invokevirtual 49) 3 10 := by decide +kernel
theorem d_L_carriesOut_10 : dJ prog_2_method_12_code 10 (.ifCond .ne 14) 14 13 24 := by decide +kernel
theorem d_L_carriesOut_13 : dI prog_2_method_12_code 13 (.aload_n 0) 1 14 := by decide +kernel
theorem d_L_carriesOut_14 : dI prog_2_method_12_code 14 (.getfield 9) 3 17 := by decide +kernel
theorem d_L_carriesOut_17 : dI prog_2_method_12_code 17 (.bipush 6) 2 19 ∧ (Int8.ofInt 6).toInt32 = 6 := by decide +kernel
theorem d_L_carriesOut_19 : dI prog_2_method_12_code 19 .iaload 1 20 := by decide +kernel
theorem d_L_carriesOut_20 : dI prog_2_method_12_code 20 (.iload_n 2) 1 21 := by decide +kernel
theorem d_L_carriesOut_21 : dJ prog_2_method_12_code 21 (.if_icmp .ge 5) 5 24 26 := by decide +kernel
theorem d_L_carriesOut_24 : dI prog_2_method_12_code 24 (.iconst 0) 1 25 ∧ Int32.ofInt 0 = 0 := by decide +kernel
theorem d_L_carriesOut_25 : decode prog_2_method_12_code 25 = .ok (.ireturn, 1) := by decide +kernel
theorem d_L_carriesOut_26 : dI prog_2_method_12_code 26 (.aload_n 0) 1 27 := by decide +kernel
theorem d_L_carriesOut_27 : dI prog_2_method_12_code 27 (.getfield 9) 3 30 := by decide +kernel
theorem d_L_carriesOut_30 : dI prog_2_method_12_code 30 (.bipush 7) 2 32 ∧ (Int8.ofInt 7).toInt32 = 7 := by decide +kernel
theorem d_L_carriesOut_32 : dI prog_2_method_12_code 32 .dup2 1 33 := by decide +kernel
theorem d_L_carriesOut_33 : dI prog_2_method_12_code 33 .iaload 1 34 := by decide +kernel
theorem d_L_carriesOut_34 : dI prog_2_method_12_code 34 (.aload_n 0) 1 35 := by decide +kernel
theorem d_L_carriesOut_35 : dI prog_2_method_12_code 35 (.iload_n 1) 1 36 := by decide +kernel
theorem d_L_carriesOut_36 : dI prog_2_method_12_code 36 (.invokevirtual 43) 3 39 := by decide +kernel
theorem d_L_carriesOut_39 : dI prog_2_method_12_code 39 .iadd 1 40 := by decide +kernel
theorem d_L_carriesOut_40 : dI prog_2_method_12_code 40 .iastore 1 41 := by decide +kernel
theorem d_L_carriesOut_41 : dI prog_2_method_12_code 41 (.aload_n 0) 1 42 := by decide +kernel
theorem d_L_carriesOut_42 : dI prog_2_method_12_code 42 (.getfield 9) 3 45 := by decide +kernel
theorem d_L_carriesOut_45 : dI prog_2_method_12_code 45 (.bipush 6) 2 47 ∧ (Int8.ofInt 6).toInt32 = 6 := by decide +kernel
theorem d_L_carriesOut_47 : dI prog_2_method_12_code 47 .dup2 1 48 := by decide +kernel
theorem d_L_carriesOut_48 : dI prog_2_method_12_code 48 .iaload 1 49 := by decide +kernel
theorem d_L_carriesOut_49 : dI prog_2_method_12_code 49 (.iload_n 2) 1 50 := by decide +kernel
theorem d_L_carriesOut_50 : dI prog_2_method_12_code 50 .isub 1 51 := by decide +kernel
theorem d_L_carriesOut_51 : dI prog_2_method_12_code 51 .iastore 1 52 := by decide +kernel
theorem d_L_carriesOut_52 : dI prog_2_method_12_code 52 (.aload_n 0) 1 53 := by decide +kernel
theorem d_L_carriesOut_53 : dI prog_2_method_12_code 53 (.getfield 9) 3 56 := by decide +kernel
theorem d_L_carriesOut_56 : dI prog_2_method_12_code 56 (.bipush 8) 2 58 ∧ (Int8.ofInt 8).toInt32 = 8 := by decide +kernel
theorem d_L_carriesOut_58 : dI prog_2_method_12_code 58 .dup2 1 59 := by decide +kernel
theorem d_L_carriesOut_59 : dI prog_2_method_12_code 59 .iaload 1 60 := by decide +kernel
theorem d_L_carriesOut_60 : dI prog_2_method_12_code 60 (.iload_n 2) 1 61 := by decide +kernel
theorem d_L_carriesOut_61 : dI prog_2_method_12_code 61 .iadd 1 62 := by decide +kernel
theorem d_L_carriesOut_62 : dI prog_2_method_12_code 62 .iastore 1 63 := by decide +kernel
theorem d_L_carriesOut_63 : dI prog_2_method_12_code 63 (.iload_n 1) 1 64 := by decide +kernel
theorem d_L_carriesOut_64 : dI prog_2_method_12_code 64 (.iconst 1) 1 65 ∧ Int32.ofInt 1 = 1 := by decide +kernel
theorem d_L_carriesOut_65 : dI prog_2_method_12_code 65 (.invokestatic 53) 3 68 := by decide +kernel
theorem d_L_carriesOut_68 : dJ prog_2_method_12_code 68 (.ifCond .eq 29) 29 71 97 := by decide +kernel
theorem d_L_carriesOut_71 : dI prog_2_method_12_code 71 (.aload_n 0) 1 72 := by decide +kernel
theorem d_L_carriesOut_72 : dI prog_2_method_12_code 72 (.getfield 9) 3 75 := by decide +kernel
theorem d_L_carriesOut_75 : dI prog_2_method_12_code 75 (.iconst 1) 1 76 ∧ Int32.ofInt 1 = 1 := by decide +kernel
theorem d_L_carriesOut_76 : dI prog_2_method_12_code 76 (.iconst 0) 1 77 ∧ Int32.ofInt 0 = 0 := by decide +kernel
theorem d_L_carriesOut_77 : dI prog_2_method_12_code 77 (.aload_n 0) 1 78 := by decide +kernel
theorem d_L_carriesOut_78 : dI prog_2_method_12_code 78 (.getfield 9) 3 81 := by decide +kernel
theorem d_L_carriesOut_81 : dI prog_2_method_12_code 81 (.iconst 1) 1 82 ∧ Int32.ofInt 1 = 1 := by decide +kernel
theorem d_L_carriesOut_82 : dI prog_2_method_12_code 82 .iaload 1 83 := by decide +kernel
theorem d_L_carriesOut_83 : dI prog_2_method_12_code 83 (.bipush 10) 2 85 ∧ (Int8.ofInt 10).toInt32 = 10 := by decide +kernel
theorem d_L_carriesOut_85 : dI prog_2_method_12_code 85 (.aload_n 0) 1 86 := by decide +kernel
theorem d_L_carriesOut_86 : dI prog_2_method_12_code 86 (.getfield 9) 3 89 := by decide +kernel
theorem d_L_carriesOut_89 : dI prog_2_method_12_code 89 (.iconst 5) 1 90 ∧ Int32.ofInt 5 = 5 := by decide +kernel
theorem d_L_carriesOut_90 : dI prog_2_method_12_code 90 .iaload 1 91 := by decide +kernel
theorem d_L_carriesOut_91 : dI prog_2_method_12_code 91 .imul 1 92 := by decide +kernel
theorem d_L_carriesOut_92 : dI prog_2_method_12_code 92 .isub 1 93 := by decide +kernel
theorem d_L_carriesOut_93 : dI prog_2_method_12_code 93 (.invokestatic 57) 3 96 := by decide +kernel
theorem d_L_carriesOut_96 : dI prog_2_method_12_code 96 .iastore 1 97 := by decide +kernel
theorem d_L_carriesOut_97 : dI prog_2_method_12_code 97 (.iload_n 1) 1 98 := by decide +kernel
theorem d_L_carriesOut_98 : dI prog_2_method_12_code 98 (.iconst 3) 1 99 ∧ Int32.ofInt 3 = 3 := by decide +kernel
theorem d_L_carriesOut_99 : dJ prog_2_method_12_code 99 (.if_icmp .ne 22) 22 102 121 := by decide +kernel
theorem d_L_carriesOut_102 : dI prog_2_method_12_code 102 (.aload_n 0) 1 103 := by decide +kernel
theorem d_L_carriesOut_103 : dI prog_2_method_12_code 103 (.getfield 9) 3 106 := by decide +kernel
theorem d_L_carriesOut_106 : dI prog_2_method_12_code 106 (.iconst 2) 1 107 ∧ Int32.ofInt 2 = 2 := by decide +kernel
theorem d_L_carriesOut_107 : dI prog_2_method_12_code 107 (.iconst 0) 1 108 ∧ Int32.ofInt 0 = 0 := by decide +kernel
theorem d_L_carriesOut_108 : dI prog_2_method_12_code 108 (.aload_n 0) 1 109 := by decide +kernel
theorem d_L_carriesOut_109 : dI prog_2_method_12_code 109 (.getfield 9) 3 112 := by decide +kernel
theorem d_L_carriesOut_112 : dI prog_2_method_12_code 112 (.iconst 2) 1 113 ∧ Int32.ofInt 2 = 2 := by decide +kernel
theorem d_L_carriesOut_113 : dI prog_2_method_12_code 113 .iaload 1 114 := by decide +kernel
theorem d_L_carriesOut_114 : dI prog_2_method_12_code 114 (.bipush 10) 2 116 ∧ (Int8.ofInt 10).toInt32 = 10 := by decide +kernel
theorem d_L_carriesOut_116 : dI prog_2_method_12_code 116 .isub 1 117 := by decide +kernel
theorem d_L_carriesOut_117 : dI prog_2_method_12_code 117 (.invokestatic 57) 3 120 := by decide +kernel
theorem d_L_carriesOut_120 : dI prog_2_method_12_code 120 .iastore 1 121 := by decide +kernel
theorem d_L_carriesOut_121 : dI prog_2_method_12_code 121 (.iload_n 1) 1 122 := by decide +kernel
theorem d_L_carriesOut_122 : dI prog_2_method_12_code 122 (.iconst 4) 1 123 ∧ Int32.ofInt 4 = 4 := by decide +kernel
theorem d_L_carriesOut_123 : dJ prog_2_method_12_code 123 (.if_icmp .ne 22) 22 126 145 := by decide +kernel
theorem d_L_carriesOut_126 : dI prog_2_method_12_code 126 (.aload_n 0) 1 127 := by decide +kernel
theorem d_L_carriesOut_127 : dI prog_2_method_12_code 127 (.getfield 9) 3 130 := by decide +kernel
theorem d_L_carriesOut_130 : dI prog_2_method_12_code 130 (.iconst 3) 1 131 ∧ Int32.ofInt 3 = 3 := by decide +kernel
theorem d_L_carriesOut_131 : dI prog_2_method_12_code 131 (.bipush 9) 2 133 ∧ (Int8.ofInt 9).toInt32 = 9 := by decide +kernel
theorem d_L_carriesOut_133 : dI prog_2_method_12_code 133 (.aload_n 0) 1 134 := by decide +kernel
theorem d_L_carriesOut_134 : dI prog_2_method_12_code 134 (.getfield 9) 3 137 := by decide +kernel
theorem d_L_carriesOut_137 : dI prog_2_method_12_code 137 (.iconst 3) 1 138 ∧ Int32.ofInt 3 = 3 := by decide +kernel
theorem d_L_carriesOut_138 : dI prog_2_method_12_code 138 .iaload 1 139 := by decide +kernel
theorem d_L_carriesOut_139 : dI prog_2_method_12_code 139 (.iconst 3) 1 140 ∧ Int32.ofInt 3 = 3 := by decide +kernel
theorem d_L_carriesOut_140 : dI prog_2_method_12_code 140 .iadd 1 141 := by decide +kernel
theorem d_L_carriesOut_141 : dI prog_2_method_12_code 141 (.invokestatic 62) 3 144 := by decide +kernel
theorem d_L_carriesOut_144 : dI prog_2_method_12_code 144 .iastore 1 145 := by decide +kernel
theorem d_L_carriesOut_145 : dI prog_2_method_12_code 145 (.iload_n 1) 1 146 := by decide +kernel
theorem d_L_carriesOut_146 : dI prog_2_method_12_code 146 (.bipush 7) 2 148 ∧ (Int8.ofInt 7).toInt32 = 7 := by decide +kernel
theorem d_L_carriesOut_148 : dJ prog_2_method_12_code 148 (.if_icmp .eq 8) 8 151 156 := by decide +kernel
theorem d_L_carriesOut_151 : dI prog_2_method_12_code 151 (.aload_n 0) 1 152 := by decide +kernel
theorem d_L_carriesOut_152 : dI prog_2_method_12_code 152 (.iload_n 1) 1 153 := by decide +kernel
theorem d_L_carriesOut_153 : dI prog_2_method_12_code 153 (.invokevirtual 65) 3 156 := by decide +kernel
theorem d_L_carriesOut_156 : dI prog_2_method_12_code 156 (.iconst 1) 1 157 ∧ Int32.ofInt 1 = 1 := by decide +kernel
theorem d_L_carriesOut_157 : decode prog_2_method_12_code 157 = .ok (.ireturn, 1) := by decide +kernel
theorem d_L_drive_0 : dI prog_2_method_13_code 0 (.iload_n 1) 1 1 := by decide +kernel
theorem d_L_drive_1 : dI prog_2_method_13_code 1 (.iconst 2) 1 2 ∧ Int32.ofInt 2 = 2 := by decide +kernel
theorem d_L_drive_2 : dI prog_2_method_13_code 2 (.invokestatic 53) 3 5 := by decide +kernel
theorem d_L_drive_5 : dJ prog_2_method_13_code 5 (.ifCond .eq 12) 12 8 17 := by decide +kernel
theorem d_L_drive_8 : dI prog_2_method_13_code 8 (.aload_n 0) 1 9 := by decide +kernel
theorem d_L_drive_9 : dI prog_2_method_13_code 9 (.getfield 9) 3 12 := by decide +kernel
theorem d_L_drive_12 : dI prog_2_method_13_code 12 (.iconst 4) 1 13 ∧ Int32.ofInt 4 = 4 := by decide +kernel
theorem d_L_drive_13 : dI prog_2_method_13_code 13 .iaload 1 14 := by decide +kernel
theorem d_L_drive_14 : dJ prog_2_method_13_code 14 (.goto 4) 4 17 18 := by decide +kernel
theorem d_L_drive_17 : dI prog_2_method_13_code 17 (.iconst 0) 1 18 ∧ Int32.ofInt 0 = 0 := by decide +kernel
theorem d_L_drive_18 : dI prog_2_method_13_code 18 (.istore_n 2) 1 19 := by decide +kernel
theorem d_L_drive_19 : dI prog_2_method_13_code 19 (.iload_n 2) 1 20 := by decide +kernel
theorem d_L_drive_20 : dJ prog_2_method_13_code 20 (.ifCond .le 14) 14 23 34 := by decide +kernel
theorem d_L_drive_23 : dI prog_2_method_13_code 23 (.aload_n 0) 1 24 := by decide +kernel
theorem d_L_drive_24 : dI prog_2_method_13_code 24 (.getfield 9) 3 27 := by decide +kernel
theorem d_L_drive_27 : dI prog_2_method_13_code 27 (.iconst 0) 1 28 ∧ Int32.ofInt 0 = 0 := by decide +kernel
theorem d_L_drive_28 : dI prog_2_method_13_code 28 .iaload 1 29 := by decide +kernel
theorem d_L_drive_29 : dI prog_2_method_13_code 29 (.iload_n 2) 1 30 := by decide +kernel
theorem d_L_drive_30 : dI prog_2_method_13_code 30 .iadd 1 31 := by decide +kernel
theorem d_L_drive_31 : dJ prog_2_method_13_code 31 (.goto 4) 4 34 35 := by decide +kernel
theorem d_L_drive_34 : dI prog_2_method_13_code 34 (.iconst 0) 1 35 ∧ Int32.ofInt 0 = 0 := by decide +kernel
theorem d_L_drive_35 : dI prog_2_method_13_code 35 (.istore_n 3) 1 36 := by decide +kernel
theorem d_L_drive_36 : dI prog_2_method_13_code 36 (.iload_n 1) 1 37 := by decide +kernel
theorem d_L_drive_37 : dI prog_2_method_13_code 37 (.iconst 5) 1 38 ∧ Int32.ofInt 5 = 5 := by decide +kernel
theorem d_L_drive_38 : dJ prog_2_method_13_code 38 (.if_icmp .ne 8) 8 41 46 := by decide +kernel
theorem d_L_drive_41 : dI prog_2_method_13_code 41 (.bipush 15) 2 43 ∧ (Int8.ofInt 15).toInt32 = 15 := by decide +kernel
theorem d_L_drive_43 : dJ prog_2_method_13_code 43 (.goto 4) 4 46 47 := by decide +kernel
theorem d_L_drive_46 : dI prog_2_method_13_code 46 (.iconst 0) 1 47 ∧ Int32.ofInt 0 = 0 := by decide +kernel
theorem d_L_drive_47 : dI prog_2_method_13_code 47 (.istore 4) 2 49 := by decide +kernel
theorem d_L_drive_49 : dI prog_2_method_13_code 49 (.iload_n 1) 1 50 := by decide +kernel
theorem d_L_drive_50 : dI prog_2_method_13_code 50 (.bipush 6) 2 52 ∧ (Int8.ofInt 6).toInt32 = 6 := by decide +kernel
theorem d_L_drive_52 : dJ prog_2_method_13_code 52 (.if_icmp .ne 7) 7 55 59 := by decide +kernel
theorem d_L_drive_55 : dI prog_2_method_13_code 55 (.iconst (-1)) 1 56 ∧ Int32.ofInt (-1) = (-1) := by decide +kernel
theorem d_L_drive_56 : dJ prog_2_method_13_code 56 (.goto 4) 4 59 60 := by decide +kernel
theorem d_L_drive_59 : dI prog_2_method_13_code 59 (.iconst 1) 1 60 ∧ Int32.ofInt 1 = 1 := by decide +kernel
theorem d_L_drive_60 : dI prog_2_method_13_code 60 (.istore 5) 2 62 := by decide +kernel
theorem d_L_drive_62 : dI prog_2_method_13_code 62 (.iconst 3) 1 63 ∧ Int32.ofInt 3 = 3 := by decide +kernel
theorem d_L_drive_63 : dI prog_2_method_13_code 63 (.iload_n 2) 1 64 := by decide +kernel
theorem d_L_drive_64 : dI prog_2_method_13_code 64 (.iconst 1) 1 65 ∧ Int32.ofInt 1 = 1 := by decide +kernel
theorem d_L_drive_65 : dI prog_2_method_13_code 65 .iadd 1 66 := by decide +kernel
theorem d_L_drive_66 : dI prog_2_method_13_code 66 (.invokestatic 57) 3 69 := by decide +kernel
theorem d_L_drive_69 : dI prog_2_method_13_code 69 (.istore 6) 2 71 := by decide +kernel
theorem d_L_drive_71 : dI prog_2_method_13_code 71 (.iconst 1) 1 72 ∧ Int32.ofInt 1 = 1 := by decide +kernel
theorem d_L_drive_72 : dI prog_2_method_13_code 72 (.istore 7) 2 74 := by decide +kernel
theorem d_L_drive_74 : dI prog_2_method_13_code 74 (.iconst 0) 1 75 ∧ Int32.ofInt 0 = 0 := by decide +kernel
theorem d_L_drive_75 : dI prog_2_method_13_code 75 (.istore 8) 2 77 := by decide +kernel
theorem d_L_drive_77 : dI prog_2_method_13_code 77 (.iload 8) 2 79 := by decide +kernel
theorem d_L_drive_79 : dI prog_2_method_13_code 79 (.iload 6) 2 81 := by decide +kernel
theorem d_L_drive_81 : dJ prog_2_method_13_code 81 (.if_icmp .ge 25) 25 84 106 := by decide +kernel
theorem d_L_drive_84 : dI prog_2_method_13_code 84 (.iload 7) 2 86 := by decide +kernel
theorem d_L_drive_86 : dJ prog_2_method_13_code 86 (.ifCond .eq 20) 20 89 106 := by decide +kernel
theorem d_L_drive_89 : dI prog_2_method_13_code 89 (.aload_n 0) 1 90 := by decide +kernel
theorem d_L_drive_90 : dI prog_2_method_13_code 90 (.iload 5) 2 92 := by decide +kernel
theorem d_L_drive_92 : dI prog_2_method_13_code 92 (.iload_n 3) 1 93 := by decide +kernel
theorem d_L_drive_93 : dI prog_2_method_13_code 93 (.iload 4) 2 95 := by decide +kernel
theorem d_L_drive_95 : dI prog_2_method_13_code 95 (.invokevirtual 69) 3 98 := by decide +kernel
theorem d_L_drive_98 : dI prog_2_method_13_code 98 (.istore 7) 2 100 := by decide +kernel
theorem d_L_drive_100 : dI prog_2_method_13_code 100 (.iinc 8 1) 3 103 ∧ Int32.ofInt 1 = 1 := by decide +kernel
theorem d_L_drive_103 : dJ prog_2_method_13_code 103 (.goto (-26)) (-26) 106 77 := by decide +kernel
theorem d_L_drive_106 : decode prog_2_method_13_code 106 = .ok (.return_, 1) := by decide +kernel
theorem d_L_push_0 : dI prog_2_method_14_code 0 (.aload_n 0) 1 1 := by decide +kernel
theorem d_L_push_1 : dI prog_2_method_14_code 1 (.getfield 9) 3 4 := by decide +kernel
theorem d_L_push_4 : dI prog_2_method_14_code 4 (.iconst 0) 1 5 ∧ Int32.ofInt 0 = 0 := by decide +kernel
theorem d_L_push_5 : dI prog_2_method_14_code 5 .iaload 1 6 := by decide +kernel
theorem d_L_push_6 : dI prog_2_method_14_code 6 (.istore 4) 2 8 := by decide +kernel
theorem d_L_push_8 : dI prog_2_method_14_code 8 (.iload 4) 2 10 := by decide +kernel
theorem d_L_push_10 : dI prog_2_method_14_code 10 (.invokestatic 24) 3 13 := by decide +kernel
theorem d_L_push_13 : dJ prog_2_method_14_code 13 (.ifCond .ne 5) 5 16 18 := by decide +kernel
theorem d_L_push_16 : dI prog_2_method_14_code 16 (.iconst 0) 1 17 ∧ Int32.ofInt 0 = 0 := by decide +kernel
theorem d_L_push_17 : decode prog_2_method_14_code 17 = .ok (.ireturn, 1) := by decide +kernel
theorem d_L_push_18 : dI prog_2_method_14_code 18 (.aload_n 0) 1 19 := by decide +kernel
theorem d_L_push_19 : dI prog_2_method_14_code 19 (.getfield 9) 3 22 := by decide +kernel
theorem d_L_push_22 : dI prog_2_method_14_code 22 (.bipush 9) 2 24 ∧ (Int8.ofInt 9).toInt32 = 9 := by decide +kernel
theorem d_L_push_24 : dI prog_2_method_14_code 24 .dup2 1 25 := by decide +kernel
theorem d_L_push_25 : dI prog_2_method_14_code 25 .iaload 1 26 := by decide +kernel
theorem d_L_push_26 : dI prog_2_method_14_code 26 (.iconst 1) 1 27 ∧ Int32.ofInt 1 = 1 := by decide +kernel
theorem d_L_push_27 : dI prog_2_method_14_code 27 .iadd 1 28 := by decide +kernel
theorem d_L_push_28 : dI prog_2_method_14_code 28 .iastore 1 29 := by decide +kernel
theorem d_L_push_29 : dI prog_2_method_14_code 29 (.aload_n 0) 1 30 := by decide +kernel
theorem d_L_push_30 : dI prog_2_method_14_code 30 (.aload_n 0) 1 31 := by decide +kernel
theorem d_L_push_31 : dI prog_2_method_14_code 31 (.getfield 15) 3 34 := by decide +kernel
theorem d_L_push_34 : dI prog_2_method_14_code 34 (.iload 4) 2 36 := by decide +kernel
theorem d_L_push_36 : dI prog_2_method_14_code 36 .iaload 1 37 := by decide +kernel
theorem d_L_push_37 : dI prog_2_method_14_code 37 (.aload_n 0) 1 38 := by decide +kernel
theorem d_L_push_38 : dI prog_2_method_14_code 38 (.getfield 9) 3 41 := by decide +kernel
theorem d_L_push_41 : dI prog_2_method_14_code 41 (.iconst 3) 1 42 ∧ Int32.ofInt 3 = 3 := by decide +kernel
theorem d_L_push_42 : dI prog_2_method_14_code 42 .iaload 1 43 := by decide +kernel
theorem d_L_push_43 : dI prog_2_method_14_code 43 (.invokevirtual 73) 3 46 := by decide +kernel
theorem d_L_push_46 : dI prog_2_method_14_code 46 (.iload 4) 2 48 := by decide +kernel
theorem d_L_push_48 : dI prog_2_method_14_code 48 (.iload_n 2) 1 49 := by decide +kernel
theorem d_L_push_49 : dJ prog_2_method_14_code 49 (.if_icmp .ge 8) 8 52 57 := by decide +kernel
theorem d_L_push_52 : dI prog_2_method_14_code 52 (.bipush 30) 2 54 ∧ (Int8.ofInt 30).toInt32 = 30 := by decide +kernel
theorem d_L_push_54 : dJ prog_2_method_14_code 54 (.goto 4) 4 57 58 := by decide +kernel
theorem d_L_push_57 : dI prog_2_method_14_code 57 (.iconst 0) 1 58 ∧ Int32.ofInt 0 = 0 := by decide +kernel
theorem d_L_push_58 : dI prog_2_method_14_code 58 .iadd 1 59 := by decide +kernel
theorem d_L_push_59 : dI prog_2_method_14_code 59 (.istore 5) 2 61 := by decide +kernel
theorem d_L_push_61 : dI prog_2_method_14_code 61 (.iload 5) 2 63 := by decide +kernel
theorem d_L_push_63 : dI prog_2_method_14_code 63 (.aload_n 0) 1 64 := by decide +kernel
theorem d_L_push_64 : dI prog_2_method_14_code 64 (.invokevirtual 76) 3 67 := by decide +kernel
theorem d_L_push_67 : dI prog_2_method_14_code 67 (.iload_n 3) 1 68 := by decide +kernel
theorem d_L_push_68 : dI prog_2_method_14_code 68 .isub 1 69 := by decide +kernel
theorem d_L_push_69 : dJ prog_2_method_14_code 69 (.if_icmp .ge 24) 24 72 93 := by decide +kernel
theorem d_L_push_72 : dI prog_2_method_14_code 72 (.aload_n 0) 1 73 := by decide +kernel
theorem d_L_push_73 : dI prog_2_method_14_code 73 (.getfield 9) 3 76 := by decide +kernel
theorem d_L_push_76 : dI prog_2_method_14_code 76 (.iconst 1) 1 77 ∧ Int32.ofInt 1 = 1 := by decide +kernel
theorem d_L_push_77 : dI prog_2_method_14_code 77 (.bipush 99) 2 79 ∧ (Int8.ofInt 99).toInt32 = 99 := by decide +kernel
theorem d_L_push_79 : dI prog_2_method_14_code 79 (.aload_n 0) 1 80 := by decide +kernel
theorem d_L_push_80 : dI prog_2_method_14_code 80 (.getfield 9) 3 83 := by decide +kernel
theorem d_L_push_83 : dI prog_2_method_14_code 83 (.iconst 1) 1 84 ∧ Int32.ofInt 1 = 1 := by decide +kernel
theorem d_L_push_84 : dI prog_2_method_14_code 84 .iaload 1 85 := by decide +kernel
theorem d_L_push_85 : dI prog_2_method_14_code 85 (.iconst 4) 1 86 ∧ Int32.ofInt 4 = 4 := by decide +kernel
theorem d_L_push_86 : dI prog_2_method_14_code 86 .iadd 1 87 := by decide +kernel
theorem d_L_push_87 : dI prog_2_method_14_code 87 (.invokestatic 62) 3 90 := by decide +kernel
theorem d_L_push_90 : dI prog_2_method_14_code 90 .iastore 1 91 := by decide +kernel
theorem d_L_push_91 : dI prog_2_method_14_code 91 (.iconst 0) 1 92 ∧ Int32.ofInt 0 = 0 := by decide +kernel
theorem d_L_push_92 : decode prog_2_method_14_code 92 = .ok (.ireturn, 1) := by decide +kernel
theorem d_L_push_93 : dI prog_2_method_14_code 93 (.aload_n 0) 1 94 := by decide +kernel
theorem d_L_push_94 : dI prog_2_method_14_code 94 (.getfield 9) 3 97 := by decide +kernel
theorem d_L_push_97 : dI prog_2_method_14_code 97 (.iconst 0) 1 98 ∧ Int32.ofInt 0 = 0 := by decide +kernel
theorem d_L_push_98 : dI prog_2_method_14_code 98 (.iload 4) 2 100 := by decide +kernel
theorem d_L_push_100 : dI prog_2_method_14_code 100 (.iload_n 1) 1 101 := by decide +kernel
theorem d_L_push_101 : dI prog_2_method_14_code 101 .iadd 1 102 := by decide +kernel
theorem d_L_push_102 : dI prog_2_method_14_code 102 .iastore 1 103 := by decide +kernel
theorem d_L_push_103 : dI prog_2_method_14_code 103 (.aload_n 0) 1 104 := by decide +kernel
theorem d_L_push_104 : dI prog_2_method_14_code 104 (.getfield 9) 3 107 := by decide +kernel
theorem d_L_push_107 : dI prog_2_method_14_code 107 (.iconst 1) 1 108 ∧ Int32.ofInt 1 = 1 := by decide +kernel
theorem d_L_push_108 : dI prog_2_method_14_code 108 (.iconst 0) 1 109 ∧ Int32.ofInt 0 = 0 := by decide +kernel
theorem d_L_push_109 : dI prog_2_method_14_code 109 .iastore 1 110 := by decide +kernel
theorem d_L_push_110 : dI prog_2_method_14_code 110 (.iconst 1) 1 111 ∧ Int32.ofInt 1 = 1 := by decide +kernel
theorem d_L_push_111 : decode prog_2_method_14_code 111 = .ok (.ireturn, 1) := by decide +kernel
theorem d_C_init_0 : dI prog_3_method_1_code 0 (.aload_n 0) 1 1 := by decide +kernel
theorem d_C_init_1 : dI prog_3_method_1_code 1 (.invokespecial 3) 3 4 := by decide +kernel
theorem d_C_init_4 : dI prog_3_method_1_code 4 (.aload_n 0) 1 5 := by decide +kernel
theorem d_C_init_5 : dI prog_3_method_1_code 5 (.new 9) 3 8 := by decide +kernel
theorem d_C_init_8 : dI prog_3_method_1_code 8 .dup 1 9 := by decide +kernel
theorem d_C_init_9 : dI prog_3_method_1_code 9 (.bipush 40) 2 11 ∧ (Int8.ofInt 40).toInt32 = 40 := by decide +kernel
theorem d_C_init_11 : dI prog_3_method_1_code 11 (.newarray .int) 2 13 := by decide +kernel
theorem d_C_init_13 : dI prog_3_method_1_code 13 (.invokespecial 11) 3 16 := by decide +kernel
theorem d_C_init_16 : dI prog_3_method_1_code 16 (.putfield 14) 3 19 := by decide +kernel
theorem d_C_init_19 : dI prog_3_method_1_code 19 (.aload_n 0) 1 20 := by decide +kernel
theorem d_C_init_20 : dI prog_3_method_1_code 20 (.aload_n 0) 1 21 := by decide +kernel
theorem d_C_init_21 : dI prog_3_method_1_code 21 (.getfield 14) 3 24 := by decide +kernel
theorem d_C_init_24 : dI prog_3_method_1_code 24 (.getfield 20) 3 27 := by decide +kernel
theorem d_C_init_27 : dI prog_3_method_1_code 27 (.putfield 24) 3 30 := by decide +kernel
theorem d_C_init_30 : dI prog_3_method_1_code 30 (.aload_n 0) 1 31 := by decide +kernel
theorem d_C_init_31 : dI prog_3_method_1_code 31 (.bipush 10) 2 33 ∧ (Int8.ofInt 10).toInt32 = 10 := by decide +kernel
theorem d_C_init_33 : dI prog_3_method_1_code 33 (.newarray .int) 2 35 := by decide +kernel
theorem d_C_init_35 : dI prog_3_method_1_code 35 (.putfield 25) 3 38 := by decide +kernel
theorem d_C_init_38 : dI prog_3_method_1_code 38 (.aload_n 0) 1 39 := by decide +kernel
theorem d_C_init_39 : dI prog_3_method_1_code 39 (.bipush 10) 2 41 ∧ (Int8.ofInt 10).toInt32 = 10 := by decide +kernel
theorem d_C_init_41 : dI prog_3_method_1_code 41 (.newarray .int) 2 43 := by decide +kernel
theorem d_C_init_43 : dI prog_3_method_1_code 43 (.putfield 28) 3 46 := by decide +kernel
theorem d_C_init_46 : dI prog_3_method_1_code 46 (.aload_n 0) 1 47 := by decide +kernel
theorem d_C_init_47 : dI prog_3_method_1_code 47 (.bipush 20) 2 49 ∧ (Int8.ofInt 20).toInt32 = 20 := by decide +kernel
theorem d_C_init_49 : dI prog_3_method_1_code 49 (.newarray .int) 2 51 := by decide +kernel
theorem d_C_init_51 : dI prog_3_method_1_code 51 (.putfield 31) 3 54 := by decide +kernel
theorem d_C_init_54 : dI prog_3_method_1_code 54 (.aload_n 0) 1 55 := by decide +kernel
theorem d_C_init_55 : dI prog_3_method_1_code 55 (.iconst 1) 1 56 ∧ Int32.ofInt 1 = 1 := by decide +kernel
theorem d_C_init_56 : dI prog_3_method_1_code 56 (.putfield 34) 3 59 := by decide +kernel
theorem d_C_init_59 : dI prog_3_method_1_code 59 (.aload_n 0) 1 60 := by decide +kernel
theorem d_C_init_60 : dI prog_3_method_1_code 60 (.getfield 24) 3 63 := by decide +kernel
theorem d_C_init_63 : dI prog_3_method_1_code 63 (.bipush 50) 2 65 ∧ (Int8.ofInt 50).toInt32 = 50 := by decide +kernel
theorem d_C_init_65 : dI prog_3_method_1_code 65 (.invokestatic 38) 3 68 := by decide +kernel
theorem d_C_init_68 : dI prog_3_method_1_code 68 (.aload_n 0) 1 69 := by decide +kernel
theorem d_C_init_69 : dI prog_3_method_1_code 69 (.getfield 25) 3 72 := by decide +kernel
theorem d_C_init_72 : dI prog_3_method_1_code 72 (.iconst (-1)) 1 73 ∧ Int32.ofInt (-1) = (-1) := by decide +kernel
theorem d_C_init_73 : dI prog_3_method_1_code 73 (.invokestatic 38) 3 76 := by decide +kernel
theorem d_C_init_76 : dI prog_3_method_1_code 76 (.aload_n 0) 1 77 := by decide +kernel
theorem d_C_init_77 : dI prog_3_method_1_code 77 (.getfield 28) 3 80 := by decide +kernel
theorem d_C_init_80 : dI prog_3_method_1_code 80 (.iconst (-1)) 1 81 ∧ Int32.ofInt (-1) = (-1) := by decide +kernel
theorem d_C_init_81 : dI prog_3_method_1_code 81 (.invokestatic 38) 3 84 := by decide +kernel
theorem d_C_init_84 : decode prog_3_method_1_code 84 = .ok (.return_, 1) := by decide +kernel
theorem d_C_become_0 : dI prog_3_method_2_code 0 (.aload_n 1) 1 1 := by decide +kernel
theorem d_C_become_1 : dI prog_3_method_2_code 1 (.getfield 24) 3 4 := by decide +kernel
theorem d_C_become_4 : dI prog_3_method_2_code 4 (.iconst 0) 1 5 ∧ Int32.ofInt 0 = 0 := by decide +kernel
theorem d_C_become_5 : dI prog_3_method_2_code 5 (.aload_n 0) 1 6 := by decide +kernel
theorem d_C_become_6 : dI prog_3_method_2_code 6 (.getfield 24) 3 9 := by decide +kernel
theorem d_C_become_9 : dI prog_3_method_2_code 9 (.iconst 0) 1 10 ∧ Int32.ofInt 0 = 0 := by decide +kernel
theorem d_C_become_10 : dI prog_3_method_2_code 10 (.bipush 40) 2 12 ∧ (Int8.ofInt 40).toInt32 = 40 := by decide +kernel
theorem d_C_become_12 : dI prog_3_method_2_code 12 (.invokestatic 44) 3 15 := by decide +kernel
theorem d_C_become_15 : dI prog_3_method_2_code 15 (.aload_n 0) 1 16 := by decide +kernel
theorem d_C_become_16 : dI prog_3_method_2_code 16 (.getfield 14) 3 19 := by decide +kernel
theorem d_C_become_19 : dI prog_3_method_2_code 19 (.aload_n 1) 1 20 := by decide +kernel
theorem d_C_become_20 : dI prog_3_method_2_code 20 (.getfield 14) 3 23 := by decide +kernel
theorem d_C_become_23 : dI prog_3_method_2_code 23 (.invokevirtual 50) 3 26 := by decide +kernel
theorem d_C_become_26 : dI prog_3_method_2_code 26 (.aload_n 1) 1 27 := by decide +kernel
theorem d_C_become_27 : dI prog_3_method_2_code 27 (.getfield 25) 3 30 := by decide +kernel
theorem d_C_become_30 : dI prog_3_method_2_code 30 (.iconst 0) 1 31 ∧ Int32.ofInt 0 = 0 := by decide +kernel
theorem d_C_become_31 : dI prog_3_method_2_code 31 (.aload_n 0) 1 32 := by decide +kernel
theorem d_C_become_32 : dI prog_3_method_2_code 32 (.getfield 25) 3 35 := by decide +kernel
theorem d_C_become_35 : dI prog_3_method_2_code 35 (.iconst 0) 1 36 ∧ Int32.ofInt 0 = 0 := by decide +kernel
theorem d_C_become_36 : dI prog_3_method_2_code 36 (.bipush 10) 2 38 ∧ (Int8.ofInt 10).toInt32 = 10 := by decide +kernel
theorem d_C_become_38 : dI prog_3_method_2_code 38 (.invokestatic 44) 3 41 := by decide +kernel
theorem d_C_become_41 : dI prog_3_method_2_code 41 (.aload_n 1) 1 42 := by decide +kernel
theorem d_C_become_42 : dI prog_3_method_2_code 42 (.getfield 28) 3 45 := by decide +kernel
theorem d_C_become_45 : dI prog_3_method_2_code 45 (.iconst 0) 1 46 ∧ Int32.ofInt 0 = 0 := by decide +kernel
theorem d_C_become_46 : dI prog_3_method_2_code 46 (.aload_n 0) 1 47 := by decide +kernel
theorem d_C_become_47 : dI prog_3_method_2_code 47 (.getfield 28) 3 50 := by decide +kernel
theorem d_C_become_50 : dI prog_3_method_2_code 50 (.iconst 0) 1 51 ∧ Int32.ofInt 0 = 0 := by decide +kernel
theorem d_C_become_51 : dI prog_3_method_2_code 51 (.bipush 10) 2 53 ∧ (Int8.ofInt 10).toInt32 = 10 := by decide +kernel
theorem d_C_become_53 : dI prog_3_method_2_code 53 (.invokestatic 44) 3 56 := by decide +kernel
theorem d_C_become_56 : dI prog_3_method_2_code 56 (.aload_n 1) 1 57 := by decide +kernel
theorem d_C_become_57 : dI prog_3_method_2_code 57 (.getfield 31) 3 60 := by decide +kernel
theorem d_C_become_60 : dI prog_3_method_2_code 60 (.iconst 0) 1 61 ∧ Int32.ofInt 0 = 0 := by decide +kernel
theorem d_C_become_61 : dI prog_3_method_2_code 61 (.aload_n 0) 1 62 := by decide +kernel
theorem d_C_become_62 : dI prog_3_method_2_code 62 (.getfield 31) 3 65 := by decide +kernel
theorem d_C_become_65 : dI prog_3_method_2_code 65 (.iconst 0) 1 66 ∧ Int32.ofInt 0 = 0 := by decide +kernel
theorem d_C_become_66 : dI prog_3_method_2_code 66 (.bipush 20) 2 68 ∧ (Int8.ofInt 20).toInt32 = 20 := by decide +kernel
theorem d_C_become_68 : dI prog_3_method_2_code 68 (.invokestatic 44) 3 71 := by decide +kernel
theorem d_C_become_71 : dI prog_3_method_2_code 71 (.aload_n 0) 1 72 := by decide +kernel
theorem d_C_become_72 : dI prog_3_method_2_code 72 (.aload_n 1) 1 73 := by decide +kernel
theorem d_C_become_73 : dI prog_3_method_2_code 73 (.getfield 54) 3 76 := by decide +kernel
theorem d_C_become_76 : dI prog_3_method_2_code 76 (.putfield 54) 3 79 := by decide +kernel
theorem d_C_become_79 : dI prog_3_method_2_code 79 (.aload_n 0) 1 80 := by decide +kernel
theorem d_C_become_80 : dI prog_3_method_2_code 80 (.aload_n 1) 1 81 := by decide +kernel
theorem d_C_become_81 : dI prog_3_method_2_code 81 (.getfield 34) 3 84 := by decide +kernel
theorem d_C_become_84 : dI prog_3_method_2_code 84 (.putfield 34) 3 87 := by decide +kernel
theorem d_C_become_87 : decode prog_3_method_2_code 87 = .ok (.return_, 1) := by decide +kernel
theorem d_C_draw_0 : dI prog_3_method_3_code 0 (.aload_n 0) 1 1 := by decide +kernel
theorem d_C_draw_1 : dI prog_3_method_3_code 1 (.aload_n 0) 1 2 := by decide +kernel
theorem d_C_draw_2 : dI prog_3_method_3_code 2 (.getfield 34) 3 5 := by decide +kernel
theorem d_C_draw_5 : dI prog_3_method_3_code 5 (.ldc 57) 2 7 := by decide +kernel
theorem d_C_draw_7 : dI prog_3_method_3_code 7 .imul 1 8 := by decide +kernel
theorem d_C_draw_8 : dI prog_3_method_3_code 8 (.sipush 12345) 3 11 ∧ (Int16.ofInt 12345).toInt32 = 12345 := by decide +kernel
theorem d_C_draw_11 : dI prog_3_method_3_code 11 .iadd 1 12 := by decide +kernel
theorem d_C_draw_12 : dI prog_3_method_3_code 12 (.putfield 34) 3 15 := by decide +kernel
theorem d_C_draw_15 : dI prog_3_method_3_code 15 (.aload_n 0) 1 16 := by decide +kernel
theorem d_C_draw_16 : dI prog_3_method_3_code 16 (.getfield 34) 3 19 := by decide +kernel
theorem d_C_draw_19 : dI prog_3_method_3_code 19 (.bipush 8) 2 21 ∧ (Int8.ofInt 8).toInt32 = 8 := by decide +kernel
theorem d_C_draw_21 : dI prog_3_method_3_code 21 .iushr 1 22 := by decide +kernel
theorem d_C_draw_22 : decode prog_3_method_3_code 22 = .ok (.ireturn, 1) := by decide +kernel
theorem d_C_firmInAll_0 : dI prog_3_method_4_code 0 (.iconst 0) 1 1 ∧ Int32.ofInt 0 = 0 := by decide +kernel
theorem d_C_firmInAll_1 : dI prog_3_method_4_code 1 (.istore_n 1) 1 2 := by decide +kernel
theorem d_C_firmInAll_2 : dI prog_3_method_4_code 2 (.iconst 0) 1 3 ∧ Int32.ofInt 0 = 0 := by decide +kernel
theorem d_C_firmInAll_3 : dI prog_3_method_4_code 3 (.istore_n 2) 1 4 := by decide +kernel
theorem d_C_firmInAll_4 : dI prog_3_method_4_code 4 (.iload_n 2) 1 5 := by decide +kernel
theorem d_C_firmInAll_5 : dI prog_3_method_4_code 5 (.bipush 40) 2 7 ∧ (Int8.ofInt 40).toInt32 = 40 := by decide +kernel
theorem d_C_firmInAll_7 : dJ prog_3_method_4_code 7 (.if_icmp .ge 18) 18 10 25 := by decide +kernel
theorem d_C_firmInAll_10 : dI prog_3_method_4_code 10 (.iload_n 1) 1 11 := by decide +kernel
theorem d_C_firmInAll_11 : dI prog_3_method_4_code 11 (.aload_n 0) 1 12 := by decide +kernel
theorem d_C_firmInAll_12 : dI prog_3_method_4_code 12 (.getfield 24) 3 15 := by decide +kernel
theorem d_C_firmInAll_15 : dI prog_3_method_4_code 15 (.iload_n 2) 1 16 := by decide +kernel
theorem d_C_firmInAll_16 : dI prog_3_method_4_code 16 .iaload 1 17 := by decide +kernel
theorem d_C_firmInAll_17 : dI prog_3_method_4_code 17 .iadd 1 18 := by decide +kernel
theorem d_C_firmInAll_18 : dI prog_3_method_4_code 18 (.istore_n 1) 1 19 := by decide +kernel
theorem d_C_firmInAll_19 : dI prog_3_method_4_code 19 (.iinc 2 1) 3 22 ∧ Int32.ofInt 1 = 1 := by decide +kernel
theorem d_C_firmInAll_22 : dJ prog_3_method_4_code 22 (.goto (-18)) (-18) 25 4 := by decide +kernel
theorem d_C_firmInAll_25 : dI prog_3_method_4_code 25 (.iload_n 1) 1 26 := by decide +kernel
theorem d_C_firmInAll_26 : decode prog_3_method_4_code 26 = .ok (.ireturn, 1) := by decide +kernel
theorem d_C_hasRoomFor_0 : dI prog_3_method_5_code 0 (.aload_n 0) 1 1 := by decide +kernel
theorem d_C_hasRoomFor_1 : dI prog_3_method_5_code 1 (.getfield 54) 3 4 := by decide +kernel
theorem d_C_hasRoomFor_4 : dI prog_3_method_5_code 4 (.iload_n 1) 1 5 := by decide +kernel
theorem d_C_hasRoomFor_5 : dI prog_3_method_5_code 5 .iadd 1 6 := by decide +kernel
theorem d_C_hasRoomFor_6 : dI prog_3_method_5_code 6 (.bipush 20) 2 8 ∧ (Int8.ofInt 20).toInt32 = 20 := by decide +kernel
theorem d_C_hasRoomFor_8 : dJ prog_3_method_5_code 8 (.if_icmp .gt 7) 7 11 15 := by decide +kernel
theorem d_C_hasRoomFor_11 : dI prog_3_method_5_code 11 (.iconst 1) 1 12 ∧ Int32.ofInt 1 = 1 := by decide +kernel
theorem d_C_hasRoomFor_12 : dJ prog_3_method_5_code 12 (.goto 4) 4 15 16 := by decide +kernel
theorem d_C_hasRoomFor_15 : dI prog_3_method_5_code 15 (.iconst 0) 1 16 ∧ Int32.ofInt 0 = 0 := by decide +kernel
theorem d_C_hasRoomFor_16 : decode prog_3_method_5_code 16 = .ok (.ireturn, 1) := by decide +kernel
theorem d_C_addToPlan_0 : dI prog_3_method_6_code 0 (.iconst 0) 1 1 ∧ Int32.ofInt 0 = 0 := by decide +kernel
theorem d_C_addToPlan_1 : dI prog_3_method_6_code 1 (.istore_n 3) 1 2 := by decide +kernel
theorem d_C_addToPlan_2 : dI prog_3_method_6_code 2 (.iload_n 3) 1 3 := by decide +kernel
theorem d_C_addToPlan_3 : dI prog_3_method_6_code 3 (.iload_n 2) 1 4 := by decide +kernel
theorem d_C_addToPlan_4 : dJ prog_3_method_6_code 4 (.if_icmp .ge 38) 38 7 42 := by decide +kernel
theorem d_C_addToPlan_7 : dI prog_3_method_6_code 7 (.aload_n 0) 1 8 := by decide +kernel
theorem d_C_addToPlan_8 : dI prog_3_method_6_code 8 (.getfield 54) 3 11 := by decide +kernel
theorem d_C_addToPlan_11 : dI prog_3_method_6_code 11 (.bipush 20) 2 13 ∧ (Int8.ofInt 20).toInt32 = 20 := by decide +kernel
theorem d_C_addToPlan_13 : dJ prog_3_method_6_code 13 (.if_icmp .ge 29) 29 16 42 := by decide +kernel
theorem d_C_addToPlan_16 : dI prog_3_method_6_code 16 (.aload_n 0) 1 17 := by decide +kernel
theorem d_C_addToPlan_17 : dI prog_3_method_6_code 17 (.getfield 31) 3 20 := by decide +kernel
theorem d_C_addToPlan_20 : dI prog_3_method_6_code 20 (.aload_n 0) 1 21 := by decide +kernel
theorem d_C_addToPlan_21 : dI prog_3_method_6_code 21 (.getfield 54) 3 24 := by decide +kernel
theorem d_C_addToPlan_24 : dI prog_3_method_6_code 24 (.iload_n 1) 1 25 := by decide +kernel
theorem d_C_addToPlan_25 : dI prog_3_method_6_code 25 .iastore 1 26 := by decide +kernel
theorem d_C_addToPlan_26 : dI prog_3_method_6_code 26 (.aload_n 0) 1 27 := by decide +kernel
theorem d_C_addToPlan_27 : dI prog_3_method_6_code 27 .dup 1 28 := by decide +kernel
theorem d_C_addToPlan_28 : dI prog_3_method_6_code 28 (.getfield 54) 3 31 := by decide +kernel
theorem d_C_addToPlan_31 : dI prog_3_method_6_code 31 (.iconst 1) 1 32 ∧ Int32.ofInt 1 = 1 := by decide +kernel
theorem d_C_addToPlan_32 : dI prog_3_method_6_code 32 .iadd 1 33 := by decide +kernel
theorem d_C_addToPlan_33 : dI prog_3_method_6_code 33 (.putfield 54) 3 36 := by decide +kernel
theorem d_C_addToPlan_36 : dI prog_3_method_6_code 36 (.iinc 3 1) 3 39 ∧ Int32.ofInt 1 = 1 := by decide +kernel
theorem d_C_addToPlan_39 : dJ prog_3_method_6_code 39 (.goto (-37)) (-37) 42 2 := by decide +kernel
theorem d_C_addToPlan_42 : decode prog_3_method_6_code 42 = .ok (.return_, 1) := by decide +kernel
theorem d_C_planDoneBy_0 : dI prog_3_method_7_code 0 (.iconst 0) 1 1 ∧ Int32.ofInt 0 = 0 := by decide +kernel
theorem d_C_planDoneBy_1 : dI prog_3_method_7_code 1 (.istore_n 2) 1 2 := by decide +kernel
theorem d_C_planDoneBy_2 : dI prog_3_method_7_code 2 (.iload_n 2) 1 3 := by decide +kernel
theorem d_C_planDoneBy_3 : dI prog_3_method_7_code 3 (.bipush 20) 2 5 ∧ (Int8.ofInt 20).toInt32 = 20 := by decide +kernel
theorem d_C_planDoneBy_5 : dJ prog_3_method_7_code 5 (.if_icmp .ge 18) 18 8 23 := by decide +kernel
theorem d_C_planDoneBy_8 : dI prog_3_method_7_code 8 (.aload_n 0) 1 9 := by decide +kernel
theorem d_C_planDoneBy_9 : dI prog_3_method_7_code 9 (.aload_n 1) 1 10 := by decide +kernel
theorem d_C_planDoneBy_10 : dI prog_3_method_7_code 10 (.iload_n 2) 1 11 := by decide +kernel
theorem d_C_planDoneBy_11 : dI prog_3_method_7_code 11 (.invokevirtual 58) 3 14 := by decide +kernel
theorem d_C_planDoneBy_14 : dJ prog_3_method_7_code 14 (.ifCond .eq 9) 9 17 23 := by decide +kernel
theorem d_C_planDoneBy_17 : dI prog_3_method_7_code 17 (.iinc 2 1) 3 20 ∧ Int32.ofInt 1 = 1 := by decide +kernel
theorem d_C_planDoneBy_20 : dJ prog_3_method_7_code 20 (.goto (-18)) (-18) 23 2 := by decide +kernel
theorem d_C_planDoneBy_23 : dI prog_3_method_7_code 23 (.iload_n 2) 1 24 := by decide +kernel
theorem d_C_planDoneBy_24 : decode prog_3_method_7_code 24 = .ok (.ireturn, 1) := by decide +kernel
theorem d_C_isStepDoneBy_0 : dI prog_3_method_8_code 0 (.iload_n 2) 1 1 := by decide +kernel
theorem d_C_isStepDoneBy_1 : dJ prog_3_method_8_code 1 (.ifCond .lt 34) 34 4 35 := by decide +kernel
theorem d_C_isStepDoneBy_4 : dI prog_3_method_8_code 4 (.iload_n 2) 1 5 := by decide +kernel
theorem d_C_isStepDoneBy_5 : dI prog_3_method_8_code 5 (.aload_n 0) 1 6 := by decide +kernel
theorem d_C_isStepDoneBy_6 : dI prog_3_method_8_code 6 (.getfield 54) 3 9 := by decide +kernel
theorem d_C_isStepDoneBy_9 : dJ prog_3_method_8_code 9 (.if_icmp .ge 26) 26 12 35 := by decide +kernel
theorem d_C_isStepDoneBy_12 : dI prog_3_method_8_code 12 (.iload_n 2) 1 13 := by decide +kernel
theorem d_C_isStepDoneBy_13 : dI prog_3_method_8_code 13 (.bipush 20) 2 15 ∧ (Int8.ofInt 20).toInt32 = 20 := by decide +kernel
theorem d_C_isStepDoneBy_15 : dJ prog_3_method_8_code 15 (.if_icmp .ge 20) 20 18 35 := by decide +kernel
theorem d_C_isStepDoneBy_18 : dI prog_3_method_8_code 18 (.aload_n 1) 1 19 := by decide +kernel
theorem d_C_isStepDoneBy_19 : dI prog_3_method_8_code 19 (.aload_n 0) 1 20 := by decide +kernel
theorem d_C_isStepDoneBy_20 : dI prog_3_method_8_code 20 (.getfield 31) 3 23 := by decide +kernel
theorem d_C_isStepDoneBy_23 : dI prog_3_method_8_code 23 (.iload_n 2) 1 24 := by decide +kernel
theorem d_C_isStepDoneBy_24 : dI prog_3_method_8_code 24 .iaload 1 25 := by decide +kernel
theorem d_C_isStepDoneBy_25 : dI prog_3_method_8_code 25 (.invokevirtual 62) 3 28 := by decide +kernel
theorem d_C_isStepDoneBy_28 : dJ prog_3_method_8_code 28 (.ifCond .eq 7) 7 31 35 := by decide +kernel
theorem d_C_isStepDoneBy_31 : dI prog_3_method_8_code 31 (.iconst 1) 1 32 ∧ Int32.ofInt 1 = 1 := by decide +kernel
theorem d_C_isStepDoneBy_32 : dJ prog_3_method_8_code 32 (.goto 4) 4 35 36 := by decide +kernel
theorem d_C_isStepDoneBy_35 : dI prog_3_method_8_code 35 (.iconst 0) 1 36 ∧ Int32.ofInt 0 = 0 := by decide +kernel
theorem d_C_isStepDoneBy_36 : decode prog_3_method_8_code 36 = .ok (.ireturn, 1) := by decide +kernel
theorem d_H_init_0 : dI prog_4_method_1_code 0 (.aload_n 0) 1 1 := by decide +kernel
theorem d_H_init_1 : dI prog_4_method_1_code 1 (.invokespecial 3) 3 4 := by decide +kernel
theorem d_H_init_4 : dI prog_4_method_1_code 4 (.aload_n 0) 1 5 := by decide +kernel
theorem d_H_init_5 : dI prog_4_method_1_code 5 (.iconst 4) 1 6 ∧ Int32.ofInt 4 = 4 := by decide +kernel
theorem d_H_init_6 : dI prog_4_method_1_code 6 (.anewarray 9) 3 9 := by decide +kernel
theorem d_H_init_9 : dI prog_4_method_1_code 9 (.putfield 11) 3 12 := by decide +kernel
theorem d_H_init_12 : dI prog_4_method_1_code 12 (.iconst 0) 1 13 ∧ Int32.ofInt 0 = 0 := by decide +kernel
theorem d_H_init_13 : dI prog_4_method_1_code 13 (.istore_n 2) 1 14 := by decide +kernel
theorem d_H_init_14 : dI prog_4_method_1_code 14 (.iload_n 2) 1 15 := by decide +kernel
theorem d_H_init_15 : dI prog_4_method_1_code 15 (.iconst 3) 1 16 ∧ Int32.ofInt 3 = 3 := by decide +kernel
theorem d_H_init_16 : dJ prog_4_method_1_code 16 (.if_icmp .gt 23) 23 19 39 := by decide +kernel
theorem d_H_init_19 : dI prog_4_method_1_code 19 (.aload_n 0) 1 20 := by decide +kernel
theorem d_H_init_20 : dI prog_4_method_1_code 20 (.getfield 11) 3 23 := by decide +kernel
theorem d_H_init_23 : dI prog_4_method_1_code 23 (.iload_n 2) 1 24 := by decide +kernel
theorem d_H_init_24 : dI prog_4_method_1_code 24 (.new 9) 3 27 := by decide +kernel
theorem d_H_init_27 : dI prog_4_method_1_code 27 .dup 1 28 := by decide +kernel
theorem d_H_init_28 : dI prog_4_method_1_code 28 (.aload_n 1) 1 29 := by decide +kernel
theorem d_H_init_29 : dI prog_4_method_1_code 29 (.invokespecial 17) 3 32 := by decide +kernel
theorem d_H_init_32 : dI prog_4_method_1_code 32 .aastore 1 33 := by decide +kernel
theorem d_H_init_33 : dI prog_4_method_1_code 33 (.iinc 2 1) 3 36 ∧ Int32.ofInt 1 = 1 := by decide +kernel
theorem d_H_init_36 : dJ prog_4_method_1_code 36 (.goto (-22)) (-22) 39 14 := by decide +kernel
theorem d_H_init_39 : decode prog_4_method_1_code 39 = .ok (.return_, 1) := by decide +kernel
theorem d_H_begin_0 : dI prog_4_method_2_code 0 (.aload_n 0) 1 1 := by decide +kernel
theorem d_H_begin_1 : dI prog_4_method_2_code 1 (.getfield 11) 3 4 := by decide +kernel
theorem d_H_begin_4 : dI prog_4_method_2_code 4 (.iconst 0) 1 5 ∧ Int32.ofInt 0 = 0 := by decide +kernel
theorem d_H_begin_5 : dI prog_4_method_2_code 5 .aaload 1 6 := by decide +kernel
theorem d_H_begin_6 : dI prog_4_method_2_code 6 (.aload_n 1) 1 7 := by decide +kernel
theorem d_H_begin_7 : dI prog_4_method_2_code 7 (.invokevirtual 20) 3 10 := by decide +kernel
theorem d_H_begin_10 : dI prog_4_method_2_code 10 (.aload_n 0) 1 11 := by decide +kernel
theorem d_H_begin_11 : dI prog_4_method_2_code 11 (.iconst 0) 1 12 ∧ Int32.ofInt 0 = 0 := by decide +kernel
theorem d_H_begin_12 : dI prog_4_method_2_code 12 (.putfield 24) 3 15 := by decide +kernel
theorem d_H_begin_15 : decode prog_4_method_2_code 15 = .ok (.return_, 1) := by decide +kernel
theorem d_H_tryRows_0 : dI prog_4_method_3_code 0 (.iload_n 1) 1 1 := by decide +kernel
theorem d_H_tryRows_1 : dJ prog_4_method_3_code 1 (.ifCond .lt 8) 8 4 9 := by decide +kernel
theorem d_H_tryRows_4 : dI prog_4_method_3_code 4 (.iload_n 1) 1 5 := by decide +kernel
theorem d_H_tryRows_5 : dI prog_4_method_3_code 5 (.iconst 3) 1 6 ∧ Int32.ofInt 3 = 3 := by decide +kernel
theorem d_H_tryRows_6 : dJ prog_4_method_3_code 6 (.if_icmp .le 4) 4 9 10 := by decide +kernel
theorem d_H_tryRows_9 : decode prog_4_method_3_code 9 = .ok (.return_, 1) := by decide +kernel
theorem d_H_tryRows_10 : dI prog_4_method_3_code 10 (.iload_n 1) 1 11 := by decide +kernel
theorem d_H_tryRows_11 : dI prog_4_method_3_code 11 (.iload_n 2) 1 12 := by decide +kernel
theorem d_H_tryRows_12 : dJ prog_4_method_3_code 12 (.if_icmp .lt 15) 15 15 27 := by decide +kernel
theorem d_H_tryRows_15 : dI prog_4_method_3_code 15 (.aload_n 0) 1 16 := by decide +kernel
theorem d_H_tryRows_16 : dI prog_4_method_3_code 16 (.aload_n 0) 1 17 := by decide +kernel
theorem d_H_tryRows_17 : dI prog_4_method_3_code 17 (.getfield 11) 3 20 := by decide +kernel
theorem d_H_tryRows_20 : dI prog_4_method_3_code 20 (.iload_n 1) 1 21 := by decide +kernel
theorem d_H_tryRows_21 : dI prog_4_method_3_code 21 .aaload 1 22 := by decide +kernel
theorem d_H_tryRows_22 : dI prog_4_method_3_code 22 (.iload_n 3) 1 23 := by decide +kernel
theorem d_H_tryRows_23 : dI prog_4_method_3_code 23 (.invokevirtual 28) 3 26 := by decide +kernel
theorem d_H_tryRows_26 : decode prog_4_method_3_code 26 = .ok (.return_, 1) := by decide +kernel
theorem d_H_tryRows_27 : dI prog_4_method_3_code 27 (.iconst 0) 1 28 ∧ Int32.ofInt 0 = 0 := by decide +kernel
theorem d_H_tryRows_28 : dI prog_4_method_3_code 28 (.istore 4) 2 30 := by decide +kernel
theorem d_H_tryRows_30 : dI prog_4_method_3_code 30 (.iload 4) 2 32 := by decide +kernel
theorem d_H_tryRows_32 : dI prog_4_method_3_code 32 (.bipush 8) 2 34 ∧ (Int8.ofInt 8).toInt32 = 8 := by decide +kernel
theorem d_H_tryRows_34 : dJ prog_4_method_3_code 34 (.if_icmp .ge 60) 60 37 94 := by decide +kernel
theorem d_H_tryRows_37 : dI prog_4_method_3_code 37 (.iload_n 1) 1 38 := by decide +kernel
theorem d_H_tryRows_38 : dI prog_4_method_3_code 38 (.iconst 3) 1 39 ∧ Int32.ofInt 3 = 3 := by decide +kernel
theorem d_H_tryRows_39 : dJ prog_4_method_3_code 39 (.if_icmp .ge 55) 55 42 94 := by decide +kernel
theorem d_H_tryRows_42 : dI prog_4_method_3_code 42 (.aload_n 0) 1 43 := by decide +kernel
theorem d_H_tryRows_43 : dI prog_4_method_3_code 43 (.getfield 11) 3 46 := by decide +kernel
theorem d_H_tryRows_46 : dI prog_4_method_3_code 46 (.iload_n 1) 1 47 := by decide +kernel
theorem d_H_tryRows_47 : dI prog_4_method_3_code 47 (.iconst 1) 1 48 ∧ Int32.ofInt 1 = 1 := by decide +kernel
theorem d_H_tryRows_48 : dI prog_4_method_3_code 48 .iadd 1 49 := by decide +kernel
theorem d_H_tryRows_49 : dI prog_4_method_3_code 49 .aaload 1 50 := by decide +kernel
theorem d_H_tryRows_50 : dI prog_4_method_3_code 50 (.astore 5) 2 52 := by decide +kernel
theorem d_H_tryRows_52 : dI prog_4_method_3_code 52 (.aload 5) 2 54 := by decide +kernel
theorem d_H_tryRows_54 : dI prog_4_method_3_code 54 (.aload_n 0) 1 55 := by decide +kernel
theorem d_H_tryRows_55 : dI prog_4_method_3_code 55 (.getfield 11) 3 58 := by decide +kernel
theorem d_H_tryRows_58 : dI prog_4_method_3_code 58 (.iload_n 1) 1 59 := by decide +kernel
theorem d_H_tryRows_59 : dI prog_4_method_3_code 59 .aaload 1 60 := by decide +kernel
theorem d_H_tryRows_60 : dI prog_4_method_3_code 60 (.invokevirtual 20) 3 63 := by decide +kernel
theorem d_H_tryRows_63 : dI prog_4_method_3_code 63 (.aload 5) 2 65 := by decide +kernel
theorem d_H_tryRows_65 : dI prog_4_method_3_code 65 (.iload 4) 2 67 := by decide +kernel
theorem d_H_tryRows_67 : dI prog_4_method_3_code 67 (.invokevirtual 32) 3 70 := by decide +kernel
theorem d_H_tryRows_70 : dJ prog_4_method_3_code 70 (.ifCond .eq 18) 18 73 88 := by decide +kernel
theorem d_H_tryRows_73 : dI prog_4_method_3_code 73 (.aload_n 0) 1 74 := by decide +kernel
theorem d_H_tryRows_74 : dI prog_4_method_3_code 74 (.iload_n 1) 1 75 := by decide +kernel
theorem d_H_tryRows_75 : dI prog_4_method_3_code 75 (.iconst 1) 1 76 ∧ Int32.ofInt 1 = 1 := by decide +kernel
theorem d_H_tryRows_76 : dI prog_4_method_3_code 76 .iadd 1 77 := by decide +kernel
theorem d_H_tryRows_77 : dI prog_4_method_3_code 77 (.iload_n 2) 1 78 := by decide +kernel
theorem d_H_tryRows_78 : dI prog_4_method_3_code 78 (.iload_n 3) 1 79 := by decide +kernel
theorem d_H_tryRows_79 : dI prog_4_method_3_code 79 (.bipush 10) 2 81 ∧ (Int8.ofInt 10).toInt32 = 10 := by decide +kernel
theorem d_H_tryRows_81 : dI prog_4_method_3_code 81 .imul 1 82 := by decide +kernel
theorem d_H_tryRows_82 : dI prog_4_method_3_code 82 (.iload 4) 2 84 := by decide +kernel
theorem d_H_tryRows_84 : dI prog_4_method_3_code 84 .iadd 1 85 := by decide +kernel
theorem d_H_tryRows_85 : dI prog_4_method_3_code 85 (.invokestatic 36) 3 88 := by decide +kernel
theorem d_H_tryRows_88 : dI prog_4_method_3_code 88 (.iinc 4 1) 3 91 ∧ Int32.ofInt 1 = 1 := by decide +kernel
theorem d_H_tryRows_91 : dJ prog_4_method_3_code 91 (.goto (-61)) (-61) 94 30 := by decide +kernel
theorem d_H_tryRows_94 : decode prog_4_method_3_code 94 = .ok (.return_, 1) := by decide +kernel
theorem d_H_weigh_0 : dI prog_4_method_4_code 0 (.aload_n 1) 1 1 := by decide +kernel
theorem d_H_weigh_1 : dI prog_4_method_4_code 1 (.aload_n 0) 1 2 := by decide +kernel
theorem d_H_weigh_2 : dI prog_4_method_4_code 2 (.getfield 11) 3 5 := by decide +kernel
theorem d_H_weigh_5 : dI prog_4_method_4_code 5 (.iconst 0) 1 6 ∧ Int32.ofInt 0 = 0 := by decide +kernel
theorem d_H_weigh_6 : dI prog_4_method_4_code 6 .aaload 1 7 := by decide +kernel
theorem d_H_weigh_7 : dI prog_4_method_4_code 7 (.iconst 0) 1 8 ∧ Int32.ofInt 0 = 0 := by decide +kernel
theorem d_H_weigh_8 : dI prog_4_method_4_code 8 (.invokevirtual 40) 3 11 := by decide +kernel
theorem d_H_weigh_11 : dI prog_4_method_4_code 11 (.istore_n 3) 1 12 := by decide +kernel
theorem d_H_weigh_12 : dI prog_4_method_4_code 12 (.aload_n 1) 1 13 := by decide +kernel
theorem d_H_weigh_13 : dI prog_4_method_4_code 13 (.aload_n 0) 1 14 := by decide +kernel
theorem d_H_weigh_14 : dI prog_4_method_4_code 14 (.getfield 11) 3 17 := by decide +kernel
theorem d_H_weigh_17 : dI prog_4_method_4_code 17 (.iconst 0) 1 18 ∧ Int32.ofInt 0 = 0 := by decide +kernel
theorem d_H_weigh_18 : dI prog_4_method_4_code 18 .aaload 1 19 := by decide +kernel
theorem d_H_weigh_19 : dI prog_4_method_4_code 19 (.bipush 8) 2 21 ∧ (Int8.ofInt 8).toInt32 = 8 := by decide +kernel
theorem d_H_weigh_21 : dI prog_4_method_4_code 21 (.invokevirtual 40) 3 24 := by decide +kernel
theorem d_H_weigh_24 : dI prog_4_method_4_code 24 (.istore 4) 2 26 := by decide +kernel
theorem d_H_weigh_26 : dI prog_4_method_4_code 26 (.aload_n 0) 1 27 := by decide +kernel
theorem d_H_weigh_27 : dI prog_4_method_4_code 27 (.getfield 24) 3 30 := by decide +kernel
theorem d_H_weigh_30 : dJ prog_4_method_4_code 30 (.ifCond .eq 28) 28 33 58 := by decide +kernel
theorem d_H_weigh_33 : dI prog_4_method_4_code 33 (.iload_n 3) 1 34 := by decide +kernel
theorem d_H_weigh_34 : dI prog_4_method_4_code 34 (.aload_n 0) 1 35 := by decide +kernel
theorem d_H_weigh_35 : dI prog_4_method_4_code 35 (.getfield 44) 3 38 := by decide +kernel
theorem d_H_weigh_38 : dJ prog_4_method_4_code 38 (.if_icmp .gt 20) 20 41 58 := by decide +kernel
theorem d_H_weigh_41 : dI prog_4_method_4_code 41 (.iload_n 3) 1 42 := by decide +kernel
theorem d_H_weigh_42 : dI prog_4_method_4_code 42 (.aload_n 0) 1 43 := by decide +kernel
theorem d_H_weigh_43 : dI prog_4_method_4_code 43 (.getfield 44) 3 46 := by decide +kernel
theorem d_H_weigh_46 : dJ prog_4_method_4_code 46 (.if_icmp .ne 33) 33 49 79 := by decide +kernel
theorem d_H_weigh_49 : dI prog_4_method_4_code 49 (.iload 4) 2 51 := by decide +kernel
theorem d_H_weigh_51 : dI prog_4_method_4_code 51 (.aload_n 0) 1 52 := by decide +kernel
theorem d_H_weigh_52 : dI prog_4_method_4_code 52 (.getfield 48) 3 55 := by decide +kernel
theorem d_H_weigh_55 : dJ prog_4_method_4_code 55 (.if_icmp .ge 24) 24 58 79 := by decide +kernel
theorem d_H_weigh_58 : dI prog_4_method_4_code 58 (.aload_n 0) 1 59 := by decide +kernel
theorem d_H_weigh_59 : dI prog_4_method_4_code 59 (.iconst 1) 1 60 ∧ Int32.ofInt 1 = 1 := by decide +kernel
theorem d_H_weigh_60 : dI prog_4_method_4_code 60 (.putfield 24) 3 63 := by decide +kernel
theorem d_H_weigh_63 : dI prog_4_method_4_code 63 (.aload_n 0) 1 64 := by decide +kernel
theorem d_H_weigh_64 : dI prog_4_method_4_code 64 (.iload_n 3) 1 65 := by decide +kernel
theorem d_H_weigh_65 : dI prog_4_method_4_code 65 (.putfield 44) 3 68 := by decide +kernel
theorem d_H_weigh_68 : dI prog_4_method_4_code 68 (.aload_n 0) 1 69 := by decide +kernel
theorem d_H_weigh_69 : dI prog_4_method_4_code 69 (.iload 4) 2 71 := by decide +kernel
theorem d_H_weigh_71 : dI prog_4_method_4_code 71 (.putfield 48) 3 74 := by decide +kernel
theorem d_H_weigh_74 : dI prog_4_method_4_code 74 (.aload_n 0) 1 75 := by decide +kernel
theorem d_H_weigh_75 : dI prog_4_method_4_code 75 (.iload_n 2) 1 76 := by decide +kernel
theorem d_H_weigh_76 : dI prog_4_method_4_code 76 (.putfield 51) 3 79 := by decide +kernel
theorem d_H_weigh_79 : decode prog_4_method_4_code 79 = .ok (.return_, 1) := by decide +kernel
theorem d_T_init_0 : dI prog_5_method_1_code 0 (.aload_n 0) 1 1 := by decide +kernel
theorem d_T_init_1 : dI prog_5_method_1_code 1 (.invokespecial 3) 3 4 := by decide +kernel
theorem d_T_init_4 : dI prog_5_method_1_code 4 (.aload_n 0) 1 5 := by decide +kernel
theorem d_T_init_5 : dI prog_5_method_1_code 5 (.bipush 40) 2 7 ∧ (Int8.ofInt 40).toInt32 = 40 := by decide +kernel
theorem d_T_init_7 : dI prog_5_method_1_code 7 (.newarray .int) 2 9 := by decide +kernel
theorem d_T_init_9 : dI prog_5_method_1_code 9 (.putfield 9) 3 12 := by decide +kernel
theorem d_T_init_12 : decode prog_5_method_1_code 12 = .ok (.return_, 1) := by decide +kernel
theorem d_T_isMissing_0 : dI prog_5_method_2_code 0 (.aload_n 0) 1 1 := by decide +kernel
theorem d_T_isMissing_1 : dI prog_5_method_2_code 1 (.getfield 15) 3 4 := by decide +kernel
theorem d_T_isMissing_4 : dJ prog_5_method_2_code 4 (.ifCond .ne 7) 7 7 11 := by decide +kernel
theorem d_T_isMissing_7 : dI prog_5_method_2_code 7 (.iconst 1) 1 8 ∧ Int32.ofInt 1 = 1 := by decide +kernel
theorem d_T_isMissing_8 : dJ prog_5_method_2_code 8 (.goto 4) 4 11 12 := by decide +kernel
theorem d_T_isMissing_11 : dI prog_5_method_2_code 11 (.iconst 0) 1 12 ∧ Int32.ofInt 0 = 0 := by decide +kernel
theorem d_T_isMissing_12 : decode prog_5_method_2_code 12 = .ok (.ireturn, 1) := by decide +kernel
theorem d_T_renew_0 : dI prog_5_method_3_code 0 (.aload_n 0) 1 1 := by decide +kernel
theorem d_T_renew_1 : dI prog_5_method_3_code 1 (.getfield 9) 3 4 := by decide +kernel
theorem d_T_renew_4 : dI prog_5_method_3_code 4 (.iconst 0) 1 5 ∧ Int32.ofInt 0 = 0 := by decide +kernel
theorem d_T_renew_5 : dI prog_5_method_3_code 5 (.invokestatic 19) 3 8 := by decide +kernel
theorem d_T_renew_8 : dI prog_5_method_3_code 8 (.aload_n 0) 1 9 := by decide +kernel
theorem d_T_renew_9 : dI prog_5_method_3_code 9 (.iload_n 1) 1 10 := by decide +kernel
theorem d_T_renew_10 : dI prog_5_method_3_code 10 (.putfield 15) 3 13 := by decide +kernel
theorem d_T_renew_13 : dI prog_5_method_3_code 13 (.aload_n 0) 1 14 := by decide +kernel
theorem d_T_renew_14 : dI prog_5_method_3_code 14 (.aload_n 0) 1 15 := by decide +kernel
theorem d_T_renew_15 : dI prog_5_method_3_code 15 (.invokevirtual 25) 3 18 := by decide +kernel
theorem d_T_renew_18 : dJ prog_5_method_3_code 18 (.ifCond .eq 7) 7 21 25 := by decide +kernel
theorem d_T_renew_21 : dI prog_5_method_3_code 21 (.iconst 0) 1 22 ∧ Int32.ofInt 0 = 0 := by decide +kernel
theorem d_T_renew_22 : dJ prog_5_method_3_code 22 (.goto 4) 4 25 26 := by decide +kernel
theorem d_T_renew_25 : dI prog_5_method_3_code 25 (.iload_n 2) 1 26 := by decide +kernel
theorem d_T_renew_26 : dI prog_5_method_3_code 26 (.putfield 29) 3 29 := by decide +kernel
theorem d_T_renew_29 : decode prog_5_method_3_code 29 = .ok (.return_, 1) := by decide +kernel
theorem d_T_hasAll_0 : dI prog_5_method_4_code 0 (.iload_n 1) 1 1 := by decide +kernel
theorem d_T_hasAll_1 : dJ prog_5_method_4_code 1 (.ifCond .lt 21) 21 4 22 := by decide +kernel
theorem d_T_hasAll_4 : dI prog_5_method_4_code 4 (.iload_n 2) 1 5 := by decide +kernel
theorem d_T_hasAll_5 : dJ prog_5_method_4_code 5 (.ifCond .lt 17) 17 8 22 := by decide +kernel
theorem d_T_hasAll_8 : dI prog_5_method_4_code 8 (.iload_n 1) 1 9 := by decide +kernel
theorem d_T_hasAll_9 : dI prog_5_method_4_code 9 (.aload_n 0) 1 10 := by decide +kernel
theorem d_T_hasAll_10 : dI prog_5_method_4_code 10 (.getfield 29) 3 13 := by decide +kernel
theorem d_T_hasAll_13 : dI prog_5_method_4_code 13 (.iload_n 2) 1 14 := by decide +kernel
theorem d_T_hasAll_14 : dI prog_5_method_4_code 14 .isub 1 15 := by decide +kernel
theorem d_T_hasAll_15 : dJ prog_5_method_4_code 15 (.if_icmp .gt 7) 7 18 22 := by decide +kernel
theorem d_T_hasAll_18 : dI prog_5_method_4_code 18 (.iconst 1) 1 19 ∧ Int32.ofInt 1 = 1 := by decide +kernel
theorem d_T_hasAll_19 : dJ prog_5_method_4_code 19 (.goto 4) 4 22 23 := by decide +kernel
theorem d_T_hasAll_22 : dI prog_5_method_4_code 22 (.iconst 0) 1 23 ∧ Int32.ofInt 0 = 0 := by decide +kernel
theorem d_T_hasAll_23 : decode prog_5_method_4_code 23 = .ok (.ireturn, 1) := by decide +kernel
theorem d_T_fitted_0 : dI prog_5_method_5_code 0 (.aload_n 0) 1 1 := by decide +kernel
theorem d_T_fitted_1 : dI prog_5_method_5_code 1 (.getfield 15) 3 4 := by decide +kernel
theorem d_T_fitted_4 : decode prog_5_method_5_code 4 = .ok (.lookupswitch 34 #[(8, 28), (16, 31)], 28) := by decide +kernel
theorem d_T_fitted_32 : dI prog_5_method_5_code 32 (.iload_n 1) 1 33 := by decide +kernel
theorem d_T_fitted_33 : dI prog_5_method_5_code 33 .i2b 1 34 := by decide +kernel
theorem d_T_fitted_34 : decode prog_5_method_5_code 34 = .ok (.ireturn, 1) := by decide +kernel
theorem d_T_fitted_35 : dI prog_5_method_5_code 35 (.iload_n 1) 1 36 := by decide +kernel
theorem d_T_fitted_36 : dI prog_5_method_5_code 36 .i2s 1 37 := by decide +kernel
theorem d_T_fitted_37 : decode prog_5_method_5_code 37 = .ok (.ireturn, 1) := by decide +kernel
theorem d_T_fitted_38 : dI prog_5_method_5_code 38 (.iload_n 1) 1 39 := by decide +kernel
theorem d_T_fitted_39 : decode prog_5_method_5_code 39 = .ok (.ireturn, 1) := by decide +kernel
theorem d_P_init_0 : dI prog_6_method_1_code 0 (.aload_n 0) 1 1 := by decide +kernel
theorem d_P_init_1 : dI prog_6_method_1_code 1 (.invokespecial 3) 3 4 := by decide +kernel
theorem d_P_init_4 : dI prog_6_method_1_code 4 (.aload_n 0) 1 5 := by decide +kernel
theorem d_P_init_5 : dI prog_6_method_1_code 5 (.bipush 120) 2 7 ∧ (Int8.ofInt 120).toInt32 = 120 := by decide +kernel
theorem d_P_init_7 : dI prog_6_method_1_code 7 (.newarray .int) 2 9 := by decide +kernel
theorem d_P_init_9 : dI prog_6_method_1_code 9 (.putfield 9) 3 12 := by decide +kernel
theorem d_P_init_12 : decode prog_6_method_1_code 12 = .ok (.return_, 1) := by decide +kernel
theorem d_P_append_0 : dI prog_6_method_2_code 0 (.aload_n 0) 1 1 := by decide +kernel
theorem d_P_append_1 : dI prog_6_method_2_code 1 (.getfield 15) 3 4 := by decide +kernel
theorem d_P_append_4 : dJ prog_6_method_2_code 4 (.ifCond .lt 32) 32 7 36 := by decide +kernel
theorem d_P_append_7 : dI prog_6_method_2_code 7 (.aload_n 0) 1 8 := by decide +kernel
theorem d_P_append_8 : dI prog_6_method_2_code 8 (.getfield 15) 3 11 := by decide +kernel
theorem d_P_append_11 : dI prog_6_method_2_code 11 (.bipush 120) 2 13 ∧ (Int8.ofInt 120).toInt32 = 120 := by decide +kernel
theorem d_P_append_13 : dJ prog_6_method_2_code 13 (.if_icmp .ge 23) 23 16 36 := by decide +kernel
theorem d_P_append_16 : dI prog_6_method_2_code 16 (.aload_n 0) 1 17 := by decide +kernel
theorem d_P_append_17 : dI prog_6_method_2_code 17 (.getfield 9) 3 20 := by decide +kernel
theorem d_P_append_20 : dI prog_6_method_2_code 20 (.aload_n 0) 1 21 := by decide +kernel
theorem d_P_append_21 : dI prog_6_method_2_code 21 (.getfield 15) 3 24 := by decide +kernel
theorem d_P_append_24 : dI prog_6_method_2_code 24 (.iload_n 1) 1 25 := by decide +kernel
theorem d_P_append_25 : dI prog_6_method_2_code 25 .iastore 1 26 := by decide +kernel
theorem d_P_append_26 : dI prog_6_method_2_code 26 (.aload_n 0) 1 27 := by decide +kernel
theorem d_P_append_27 : dI prog_6_method_2_code 27 .dup 1 28 := by decide +kernel
theorem d_P_append_28 : dI prog_6_method_2_code 28 (.getfield 15) 3 31 := by decide +kernel
theorem d_P_append_31 : dI prog_6_method_2_code 31 (.iconst 1) 1 32 ∧ Int32.ofInt 1 = 1 := by decide +kernel
theorem d_P_append_32 : dI prog_6_method_2_code 32 .iadd 1 33 := by decide +kernel
theorem d_P_append_33 : dI prog_6_method_2_code 33 (.putfield 15) 3 36 := by decide +kernel
theorem d_P_append_36 : decode prog_6_method_2_code 36 = .ok (.return_, 1) := by decide +kernel
theorem d_P_readInto_0 : dI prog_6_method_3_code 0 (.aload_n 0) 1 1 := by decide +kernel
theorem d_P_readInto_1 : dI prog_6_method_3_code 1 (.iconst 0) 1 2 ∧ Int32.ofInt 0 = 0 := by decide +kernel
theorem d_P_readInto_2 : dI prog_6_method_3_code 2 (.putfield 19) 3 5 := by decide +kernel
theorem d_P_readInto_5 : dI prog_6_method_3_code 5 (.iconst 0) 1 6 ∧ Int32.ofInt 0 = 0 := by decide +kernel
theorem d_P_readInto_6 : dI prog_6_method_3_code 6 (.istore_n 2) 1 7 := by decide +kernel
theorem d_P_readInto_7 : dI prog_6_method_3_code 7 (.iload_n 2) 1 8 := by decide +kernel
theorem d_P_readInto_8 : dI prog_6_method_3_code 8 (.bipush 120) 2 10 ∧ (Int8.ofInt 120).toInt32 = 120 := by decide +kernel
theorem d_P_readInto_10 : dJ prog_6_method_3_code 10 (.if_icmp .gt 48) 48 13 58 := by decide +kernel
theorem d_P_readInto_13 : dI prog_6_method_3_code 13 (.aload_n 0) 1 14 := by decide +kernel
theorem d_P_readInto_14 : dI prog_6_method_3_code 14 (.invokevirtual 22) 3 17 := by decide +kernel
theorem d_P_readInto_17 : dI prog_6_method_3_code 17 (.aload_n 0) 1 18 := by decide +kernel
theorem d_P_readInto_18 : dI prog_6_method_3_code 18 (.aload_n 1) 1 19 := by decide +kernel
theorem d_P_readInto_19 : dI prog_6_method_3_code 19 (.invokevirtual 25) 3 22 := by decide +kernel
theorem d_P_readInto_22 : dJ prog_6_method_3_code 22 (.ifCond .ne 8) 8 25 30 := by decide +kernel
theorem d_P_readInto_25 : dI prog_6_method_3_code 25 (.aload_n 0) 1 26 := by decide +kernel
theorem d_P_readInto_26 : dI prog_6_method_3_code 26 (.getfield 29) 3 29 := by decide +kernel
theorem d_P_readInto_29 : decode prog_6_method_3_code 29 = .ok (.ireturn, 1) := by decide +kernel
theorem d_P_readInto_30 : dI prog_6_method_3_code 30 (.aload_n 0) 1 31 := by decide +kernel
theorem d_P_readInto_31 : dI prog_6_method_3_code 31 (.getfield 32) 3 34 := by decide +kernel
theorem d_P_readInto_34 : dJ prog_6_method_3_code 34 (.ifCond .ne 5) 5 37 39 := by decide +kernel
theorem d_P_readInto_37 : dI prog_6_method_3_code 37 (.iconst (-1)) 1 38 ∧ Int32.ofInt (-1) = (-1) := by decide +kernel
theorem d_P_readInto_38 : decode prog_6_method_3_code 38 = .ok (.ireturn, 1) := by decide +kernel
theorem d_P_readInto_39 : dI prog_6_method_3_code 39 (.aload_n 0) 1 40 := by decide +kernel
theorem d_P_readInto_40 : dI prog_6_method_3_code 40 (.getfield 32) 3 43 := by decide +kernel
theorem d_P_readInto_43 : dI prog_6_method_3_code 43 (.iconst 3) 1 44 ∧ Int32.ofInt 3 = 3 := by decide +kernel
theorem d_P_readInto_44 : dJ prog_6_method_3_code 44 (.if_icmp .eq 8) 8 47 52 := by decide +kernel
theorem d_P_readInto_47 : dI prog_6_method_3_code 47 (.aload_n 0) 1 48 := by decide +kernel
theorem d_P_readInto_48 : dI prog_6_method_3_code 48 (.getfield 29) 3 51 := by decide +kernel
theorem d_P_readInto_51 : decode prog_6_method_3_code 51 = .ok (.ireturn, 1) := by decide +kernel
theorem d_P_readInto_52 : dI prog_6_method_3_code 52 (.iinc 2 1) 3 55 ∧ Int32.ofInt 1 = 1 := by decide +kernel
theorem d_P_readInto_55 : dJ prog_6_method_3_code 55 (.goto (-48)) (-48) 58 7 := by decide +kernel
theorem d_P_readInto_58 : dI prog_6_method_3_code 58 (.aload_n 0) 1 59 := by decide +kernel
theorem d_P_readInto_59 : dI prog_6_method_3_code 59 (.getfield 29) 3 62 := by decide +kernel
theorem d_P_readInto_62 : decode prog_6_method_3_code 62 = .ok (.ireturn, 1) := by decide +kernel
theorem d_P_readItem_0 : dI prog_6_method_4_code 0 (.aload_n 0) 1 1 := by decide +kernel
theorem d_P_readItem_1 : dI prog_6_method_4_code 1 (.getfield 32) 3 4 := by decide +kernel
theorem d_P_readItem_4 : dI prog_6_method_4_code 4 (.iconst 1) 1 5 ∧ Int32.ofInt 1 = 1 := by decide +kernel
theorem d_P_readItem_5 : dJ prog_6_method_4_code 5 (.if_icmp .ne 10) 10 8 15 := by decide +kernel
theorem d_P_readItem_8 : dI prog_6_method_4_code 8 (.aload_n 0) 1 9 := by decide +kernel
theorem d_P_readItem_9 : dI prog_6_method_4_code 9 (.invokevirtual 35) 3 12 := by decide +kernel
theorem d_P_readItem_12 : dJ prog_6_method_4_code 12 (.goto 4) 4 15 16 := by decide +kernel
theorem d_P_readItem_15 : dI prog_6_method_4_code 15 (.iconst (-1)) 1 16 ∧ Int32.ofInt (-1) = (-1) := by decide +kernel
theorem d_P_readItem_16 : dI prog_6_method_4_code 16 (.istore_n 2) 1 17 := by decide +kernel
theorem d_P_readItem_17 : dI prog_6_method_4_code 17 (.iload_n 2) 1 18 := by decide +kernel
theorem d_P_readItem_18 : dJ prog_6_method_4_code 18 (.ifCond .ge 5) 5 21 23 := by decide +kernel
theorem d_P_readItem_21 : dI prog_6_method_4_code 21 (.iconst 0) 1 22 ∧ Int32.ofInt 0 = 0 := by decide +kernel
theorem d_P_readItem_22 : decode prog_6_method_4_code 22 = .ok (.ireturn, 1) := by decide +kernel
theorem d_P_readItem_23 : dI prog_6_method_4_code 23 (.iload_n 2) 1 24 := by decide +kernel
theorem d_P_readItem_24 : dI prog_6_method_4_code 24 (.bipush 8) 2 26 ∧ (Int8.ofInt 8).toInt32 = 8 := by decide +kernel
theorem d_P_readItem_26 : dJ prog_6_method_4_code 26 (.if_icmp .ge 10) 10 29 36 := by decide +kernel
theorem d_P_readItem_29 : dI prog_6_method_4_code 29 (.aload_n 0) 1 30 := by decide +kernel
theorem d_P_readItem_30 : dI prog_6_method_4_code 30 (.aload_n 1) 1 31 := by decide +kernel
theorem d_P_readItem_31 : dI prog_6_method_4_code 31 (.iload_n 2) 1 32 := by decide +kernel
theorem d_P_readItem_32 : dI prog_6_method_4_code 32 (.invokevirtual 39) 3 35 := by decide +kernel
theorem d_P_readItem_35 : decode prog_6_method_4_code 35 = .ok (.ireturn, 1) := by decide +kernel
theorem d_P_readItem_36 : dI prog_6_method_4_code 36 (.iload_n 2) 1 37 := by decide +kernel
theorem d_P_readItem_37 : dI prog_6_method_4_code 37 (.bipush 8) 2 39 ∧ (Int8.ofInt 8).toInt32 = 8 := by decide +kernel
theorem d_P_readItem_39 : dJ prog_6_method_4_code 39 (.if_icmp .ne 9) 9 42 48 := by decide +kernel
theorem d_P_readItem_42 : dI prog_6_method_4_code 42 (.aload_n 0) 1 43 := by decide +kernel
theorem d_P_readItem_43 : dI prog_6_method_4_code 43 (.aload_n 1) 1 44 := by decide +kernel
theorem d_P_readItem_44 : dI prog_6_method_4_code 44 (.invokevirtual 43) 3 47 := by decide +kernel
theorem d_P_readItem_47 : decode prog_6_method_4_code 47 = .ok (.ireturn, 1) := by decide +kernel
theorem d_P_readItem_48 : dI prog_6_method_4_code 48 (.aload_n 0) 1 49 := by decide +kernel
theorem d_P_readItem_49 : dI prog_6_method_4_code 49 (.aload_n 1) 1 50 := by decide +kernel
theorem d_P_readItem_50 : dI prog_6_method_4_code 50 (.iload_n 2) 1 51 := by decide +kernel
theorem d_P_readItem_51 : dI prog_6_method_4_code 51 (.bipush 8) 2 53 ∧ (Int8.ofInt 8).toInt32 = 8 := by decide +kernel
theorem d_P_readItem_53 : dI prog_6_method_4_code 53 .isub 1 54 := by decide +kernel
theorem d_P_readItem_54 : dI prog_6_method_4_code 54 (.iconst 1) 1 55 ∧ Int32.ofInt 1 = 1 := by decide +kernel
theorem d_P_readItem_55 : dI prog_6_method_4_code 55 .iadd 1 56 := by decide +kernel
theorem d_P_readItem_56 : dI prog_6_method_4_code 56 (.invokevirtual 46) 3 59 := by decide +kernel
theorem d_P_readItem_59 : decode prog_6_method_4_code 59 = .ok (.ireturn, 1) := by decide +kernel
theorem d_P_readEfforts_0 : dI prog_6_method_5_code 0 (.aload_n 1) 1 1 := by decide +kernel
theorem d_P_readEfforts_1 : dI prog_6_method_5_code 1 (.iconst 1) 1 2 ∧ Int32.ofInt 1 = 1 := by decide +kernel
theorem d_P_readEfforts_2 : dI prog_6_method_5_code 2 (.invokevirtual 49) 3 5 := by decide +kernel
theorem d_P_readEfforts_5 : dJ prog_6_method_5_code 5 (.ifCond .ne 5) 5 8 10 := by decide +kernel
theorem d_P_readEfforts_8 : dI prog_6_method_5_code 8 (.iconst 0) 1 9 ∧ Int32.ofInt 0 = 0 := by decide +kernel
theorem d_P_readEfforts_9 : decode prog_6_method_5_code 9 = .ok (.ireturn, 1) := by decide +kernel
theorem d_P_readEfforts_10 : dI prog_6_method_5_code 10 (.aload_n 0) 1 11 := by decide +kernel
theorem d_P_readEfforts_11 : dI prog_6_method_5_code 11 (.invokevirtual 22) 3 14 := by decide +kernel
theorem d_P_readEfforts_14 : dI prog_6_method_5_code 14 (.iconst 1) 1 15 ∧ Int32.ofInt 1 = 1 := by decide +kernel
theorem d_P_readEfforts_15 : dI prog_6_method_5_code 15 (.istore_n 3) 1 16 := by decide +kernel
theorem d_P_readEfforts_16 : dI prog_6_method_5_code 16 (.aload_n 0) 1 17 := by decide +kernel
theorem d_P_readEfforts_17 : dI prog_6_method_5_code 17 (.getfield 32) 3 20 := by decide +kernel
theorem d_P_readEfforts_20 : dI prog_6_method_5_code 20 (.iconst 2) 1 21 ∧ Int32.ofInt 2 = 2 := by decide +kernel
theorem d_P_readEfforts_21 : dJ prog_6_method_5_code 21 (.if_icmp .ne 33) 33 24 54 := by decide +kernel
theorem d_P_readEfforts_24 : dI prog_6_method_5_code 24 (.aload_n 0) 1 25 := by decide +kernel
theorem d_P_readEfforts_25 : dI prog_6_method_5_code 25 (.getfield 55) 3 28 := by decide +kernel
theorem d_P_readEfforts_28 : dI prog_6_method_5_code 28 (.istore_n 3) 1 29 := by decide +kernel
theorem d_P_readEfforts_29 : dI prog_6_method_5_code 29 (.iload_n 3) 1 30 := by decide +kernel
theorem d_P_readEfforts_30 : dI prog_6_method_5_code 30 (.iconst 1) 1 31 ∧ Int32.ofInt 1 = 1 := by decide +kernel
theorem d_P_readEfforts_31 : dJ prog_6_method_5_code 31 (.if_icmp .lt 17) 17 34 48 := by decide +kernel
theorem d_P_readEfforts_34 : dI prog_6_method_5_code 34 (.iload_n 3) 1 35 := by decide +kernel
theorem d_P_readEfforts_35 : dI prog_6_method_5_code 35 (.bipush 9) 2 37 ∧ (Int8.ofInt 9).toInt32 = 9 := by decide +kernel
theorem d_P_readEfforts_37 : dJ prog_6_method_5_code 37 (.if_icmp .gt 11) 11 40 48 := by decide +kernel
theorem d_P_readEfforts_40 : dI prog_6_method_5_code 40 (.aload_n 1) 1 41 := by decide +kernel
theorem d_P_readEfforts_41 : dI prog_6_method_5_code 41 (.iload_n 3) 1 42 := by decide +kernel
theorem d_P_readEfforts_42 : dI prog_6_method_5_code 42 (.invokevirtual 49) 3 45 := by decide +kernel
theorem d_P_readEfforts_45 : dJ prog_6_method_5_code 45 (.ifCond .ne 5) 5 48 50 := by decide +kernel
theorem d_P_readEfforts_48 : dI prog_6_method_5_code 48 (.iconst 0) 1 49 ∧ Int32.ofInt 0 = 0 := by decide +kernel
theorem d_P_readEfforts_49 : decode prog_6_method_5_code 49 = .ok (.ireturn, 1) := by decide +kernel
theorem d_P_readEfforts_50 : dI prog_6_method_5_code 50 (.aload_n 0) 1 51 := by decide +kernel
theorem d_P_readEfforts_51 : dI prog_6_method_5_code 51 (.invokevirtual 22) 3 54 := by decide +kernel
theorem d_P_readEfforts_54 : dI prog_6_method_5_code 54 (.aload_n 1) 1 55 := by decide +kernel
theorem d_P_readEfforts_55 : dI prog_6_method_5_code 55 (.iload_n 2) 1 56 := by decide +kernel
theorem d_P_readEfforts_56 : dI prog_6_method_5_code 56 (.iload_n 3) 1 57 := by decide +kernel
theorem d_P_readEfforts_57 : dI prog_6_method_5_code 57 (.invokevirtual 58) 3 60 := by decide +kernel
theorem d_P_readEfforts_60 : dI prog_6_method_5_code 60 (.iconst 1) 1 61 ∧ Int32.ofInt 1 = 1 := by decide +kernel
theorem d_P_readEfforts_61 : decode prog_6_method_5_code 61 = .ok (.ireturn, 1) := by decide +kernel
theorem d_P_readSand_0 : dI prog_6_method_6_code 0 (.aload_n 0) 1 1 := by decide +kernel
theorem d_P_readSand_1 : dI prog_6_method_6_code 1 (.invokevirtual 22) 3 4 := by decide +kernel
theorem d_P_readSand_4 : dI prog_6_method_6_code 4 (.aload_n 0) 1 5 := by decide +kernel
theorem d_P_readSand_5 : dI prog_6_method_6_code 5 (.getfield 32) 3 8 := by decide +kernel
theorem d_P_readSand_8 : dI prog_6_method_6_code 8 (.iconst 2) 1 9 ∧ Int32.ofInt 2 = 2 := by decide +kernel
theorem d_P_readSand_9 : dJ prog_6_method_6_code 9 (.if_icmp .ne 13) 13 12 22 := by decide +kernel
theorem d_P_readSand_12 : dI prog_6_method_6_code 12 (.aload_n 0) 1 13 := by decide +kernel
theorem d_P_readSand_13 : dI prog_6_method_6_code 13 (.getfield 55) 3 16 := by decide +kernel
theorem d_P_readSand_16 : dI prog_6_method_6_code 16 (.invokestatic 62) 3 19 := by decide +kernel
theorem d_P_readSand_19 : dJ prog_6_method_6_code 19 (.ifCond .ne 5) 5 22 24 := by decide +kernel
theorem d_P_readSand_22 : dI prog_6_method_6_code 22 (.iconst 0) 1 23 ∧ Int32.ofInt 0 = 0 := by decide +kernel
theorem d_P_readSand_23 : decode prog_6_method_6_code 23 = .ok (.ireturn, 1) := by decide +kernel
theorem d_P_readSand_24 : dI prog_6_method_6_code 24 (.aload_n 0) 1 25 := by decide +kernel
theorem d_P_readSand_25 : dI prog_6_method_6_code 25 (.getfield 55) 3 28 := by decide +kernel
theorem d_P_readSand_28 : dI prog_6_method_6_code 28 (.istore_n 2) 1 29 := by decide +kernel
theorem d_P_readSand_29 : dI prog_6_method_6_code 29 (.aload_n 0) 1 30 := by decide +kernel
theorem d_P_readSand_30 : dI prog_6_method_6_code 30 (.invokevirtual 22) 3 33 := by decide +kernel
theorem d_P_readSand_33 : dI prog_6_method_6_code 33 (.aload_n 0) 1 34 := by decide +kernel
theorem d_P_readSand_34 : dI prog_6_method_6_code 34 (.getfield 32) 3 37 := by decide +kernel
theorem d_P_readSand_37 : dI prog_6_method_6_code 37 (.iconst 2) 1 38 ∧ Int32.ofInt 2 = 2 := by decide +kernel
theorem d_P_readSand_38 : dJ prog_6_method_6_code 38 (.if_icmp .eq 5) 5 41 43 := by decide +kernel
theorem d_P_readSand_41 : dI prog_6_method_6_code 41 (.iconst 0) 1 42 ∧ Int32.ofInt 0 = 0 := by decide +kernel
theorem d_P_readSand_42 : decode prog_6_method_6_code 42 = .ok (.ireturn, 1) := by decide +kernel
theorem d_P_readSand_43 : dI prog_6_method_6_code 43 (.iload_n 2) 1 44 := by decide +kernel
theorem d_P_readSand_44 : dI prog_6_method_6_code 44 (.istore_n 3) 1 45 := by decide +kernel
theorem d_P_readSand_45 : dI prog_6_method_6_code 45 (.iload_n 3) 1 46 := by decide +kernel
theorem d_P_readSand_46 : dI prog_6_method_6_code 46 (.bipush 40) 2 48 ∧ (Int8.ofInt 40).toInt32 = 40 := by decide +kernel
theorem d_P_readSand_48 : dJ prog_6_method_6_code 48 (.if_icmp .ge 42) 42 51 90 := by decide +kernel
theorem d_P_readSand_51 : dI prog_6_method_6_code 51 (.aload_n 0) 1 52 := by decide +kernel
theorem d_P_readSand_52 : dI prog_6_method_6_code 52 (.getfield 32) 3 55 := by decide +kernel
theorem d_P_readSand_55 : dI prog_6_method_6_code 55 (.iconst 2) 1 56 ∧ Int32.ofInt 2 = 2 := by decide +kernel
theorem d_P_readSand_56 : dJ prog_6_method_6_code 56 (.if_icmp .ne 34) 34 59 90 := by decide +kernel
theorem d_P_readSand_59 : dI prog_6_method_6_code 59 (.aload_n 0) 1 60 := by decide +kernel
theorem d_P_readSand_60 : dI prog_6_method_6_code 60 (.getfield 55) 3 63 := by decide +kernel
theorem d_P_readSand_63 : dI prog_6_method_6_code 63 (.bipush 99) 2 65 ∧ (Int8.ofInt 99).toInt32 = 99 := by decide +kernel
theorem d_P_readSand_65 : dJ prog_6_method_6_code 65 (.if_icmp .le 5) 5 68 70 := by decide +kernel
theorem d_P_readSand_68 : dI prog_6_method_6_code 68 (.iconst 0) 1 69 ∧ Int32.ofInt 0 = 0 := by decide +kernel
theorem d_P_readSand_69 : decode prog_6_method_6_code 69 = .ok (.ireturn, 1) := by decide +kernel
theorem d_P_readSand_70 : dI prog_6_method_6_code 70 (.aload_n 1) 1 71 := by decide +kernel
theorem d_P_readSand_71 : dI prog_6_method_6_code 71 (.getfield 65) 3 74 := by decide +kernel
theorem d_P_readSand_74 : dI prog_6_method_6_code 74 (.iload_n 3) 1 75 := by decide +kernel
theorem d_P_readSand_75 : dI prog_6_method_6_code 75 (.aload_n 0) 1 76 := by decide +kernel
theorem d_P_readSand_76 : dI prog_6_method_6_code 76 (.getfield 55) 3 79 := by decide +kernel
theorem d_P_readSand_79 : dI prog_6_method_6_code 79 .iastore 1 80 := by decide +kernel
theorem d_P_readSand_80 : dI prog_6_method_6_code 80 (.aload_n 0) 1 81 := by decide +kernel
theorem d_P_readSand_81 : dI prog_6_method_6_code 81 (.invokevirtual 22) 3 84 := by decide +kernel
theorem d_P_readSand_84 : dI prog_6_method_6_code 84 (.iinc 3 1) 3 87 ∧ Int32.ofInt 1 = 1 := by decide +kernel
theorem d_P_readSand_87 : dJ prog_6_method_6_code 87 (.goto (-42)) (-42) 90 45 := by decide +kernel
theorem d_P_readSand_90 : dI prog_6_method_6_code 90 (.aload_n 0) 1 91 := by decide +kernel
theorem d_P_readSand_91 : dI prog_6_method_6_code 91 (.getfield 32) 3 94 := by decide +kernel
theorem d_P_readSand_94 : dI prog_6_method_6_code 94 (.iconst 2) 1 95 ∧ Int32.ofInt 2 = 2 := by decide +kernel
theorem d_P_readSand_95 : dJ prog_6_method_6_code 95 (.if_icmp .eq 7) 7 98 102 := by decide +kernel
theorem d_P_readSand_98 : dI prog_6_method_6_code 98 (.iconst 1) 1 99 ∧ Int32.ofInt 1 = 1 := by decide +kernel
theorem d_P_readSand_99 : dJ prog_6_method_6_code 99 (.goto 4) 4 102 103 := by decide +kernel
theorem d_P_readSand_102 : dI prog_6_method_6_code 102 (.iconst 0) 1 103 ∧ Int32.ofInt 0 = 0 := by decide +kernel
theorem d_P_readSand_103 : decode prog_6_method_6_code 103 = .ok (.ireturn, 1) := by decide +kernel
theorem d_P_readNumber_0 : dI prog_6_method_7_code 0 (.aload_n 0) 1 1 := by decide +kernel
theorem d_P_readNumber_1 : dI prog_6_method_7_code 1 (.invokevirtual 22) 3 4 := by decide +kernel
theorem d_P_readNumber_4 : dI prog_6_method_7_code 4 (.iload_n 2) 1 5 := by decide +kernel
theorem d_P_readNumber_5 : dI prog_6_method_7_code 5 (.iconst 2) 1 6 ∧ Int32.ofInt 2 = 2 := by decide +kernel
theorem d_P_readNumber_6 : dJ prog_6_method_7_code 6 (.if_icmp .lt 17) 17 9 23 := by decide +kernel
theorem d_P_readNumber_9 : dI prog_6_method_7_code 9 (.iload_n 2) 1 10 := by decide +kernel
theorem d_P_readNumber_10 : dI prog_6_method_7_code 10 (.bipush 6) 2 12 ∧ (Int8.ofInt 6).toInt32 = 6 := by decide +kernel
theorem d_P_readNumber_12 : dJ prog_6_method_7_code 12 (.if_icmp .gt 11) 11 15 23 := by decide +kernel
theorem d_P_readNumber_15 : dI prog_6_method_7_code 15 (.aload_n 0) 1 16 := by decide +kernel
theorem d_P_readNumber_16 : dI prog_6_method_7_code 16 (.getfield 32) 3 19 := by decide +kernel
theorem d_P_readNumber_19 : dI prog_6_method_7_code 19 (.iconst 2) 1 20 ∧ Int32.ofInt 2 = 2 := by decide +kernel
theorem d_P_readNumber_20 : dJ prog_6_method_7_code 20 (.if_icmp .eq 5) 5 23 25 := by decide +kernel
theorem d_P_readNumber_23 : dI prog_6_method_7_code 23 (.iconst 0) 1 24 ∧ Int32.ofInt 0 = 0 := by decide +kernel
theorem d_P_readNumber_24 : decode prog_6_method_7_code 24 = .ok (.ireturn, 1) := by decide +kernel
theorem d_P_readNumber_25 : dI prog_6_method_7_code 25 (.aload_n 0) 1 26 := by decide +kernel
theorem d_P_readNumber_26 : dI prog_6_method_7_code 26 (.getfield 55) 3 29 := by decide +kernel
theorem d_P_readNumber_29 : dI prog_6_method_7_code 29 (.iload_n 2) 1 30 := by decide +kernel
theorem d_P_readNumber_30 : dI prog_6_method_7_code 30 (.invokestatic 68) 3 33 := by decide +kernel
theorem d_P_readNumber_33 : dJ prog_6_method_7_code 33 (.if_icmp .lt 14) 14 36 47 := by decide +kernel
theorem d_P_readNumber_36 : dI prog_6_method_7_code 36 (.aload_n 0) 1 37 := by decide +kernel
theorem d_P_readNumber_37 : dI prog_6_method_7_code 37 (.getfield 55) 3 40 := by decide +kernel
theorem d_P_readNumber_40 : dI prog_6_method_7_code 40 (.iload_n 2) 1 41 := by decide +kernel
theorem d_P_readNumber_41 : dI prog_6_method_7_code 41 (.invokestatic 72) 3 44 := by decide +kernel
theorem d_P_readNumber_44 : dJ prog_6_method_7_code 44 (.if_icmp .le 5) 5 47 49 := by decide +kernel
theorem d_P_readNumber_47 : dI prog_6_method_7_code 47 (.iconst 0) 1 48 ∧ Int32.ofInt 0 = 0 := by decide +kernel
theorem d_P_readNumber_48 : decode prog_6_method_7_code 48 = .ok (.ireturn, 1) := by decide +kernel
theorem d_P_readNumber_49 : dI prog_6_method_7_code 49 (.aload_n 1) 1 50 := by decide +kernel
theorem d_P_readNumber_50 : dI prog_6_method_7_code 50 (.getfield 75) 3 53 := by decide +kernel
theorem d_P_readNumber_53 : dI prog_6_method_7_code 53 (.getfield 79) 3 56 := by decide +kernel
theorem d_P_readNumber_56 : dI prog_6_method_7_code 56 (.iload_n 2) 1 57 := by decide +kernel
theorem d_P_readNumber_57 : dI prog_6_method_7_code 57 (.aload_n 0) 1 58 := by decide +kernel
theorem d_P_readNumber_58 : dI prog_6_method_7_code 58 (.getfield 55) 3 61 := by decide +kernel
theorem d_P_readNumber_61 : dI prog_6_method_7_code 61 .iastore 1 62 := by decide +kernel
theorem d_P_readNumber_62 : dI prog_6_method_7_code 62 (.aload_n 0) 1 63 := by decide +kernel
theorem d_P_readNumber_63 : dI prog_6_method_7_code 63 (.invokevirtual 22) 3 66 := by decide +kernel
theorem d_P_readNumber_66 : dI prog_6_method_7_code 66 (.iconst 1) 1 67 ∧ Int32.ofInt 1 = 1 := by decide +kernel
theorem d_P_readNumber_67 : decode prog_6_method_7_code 67 = .ok (.ireturn, 1) := by decide +kernel
theorem d_P_step_0 : dI prog_6_method_8_code 0 (.aload_n 0) 1 1 := by decide +kernel
theorem d_P_step_1 : dI prog_6_method_8_code 1 (.aload_n 0) 1 2 := by decide +kernel
theorem d_P_step_2 : dI prog_6_method_8_code 2 (.aload_n 0) 1 3 := by decide +kernel
theorem d_P_step_3 : dI prog_6_method_8_code 3 (.getfield 19) 3 6 := by decide +kernel
theorem d_P_step_6 : dI prog_6_method_8_code 6 (.bipush 32) 2 8 ∧ (Int8.ofInt 32).toInt32 = 32 := by decide +kernel
theorem d_P_step_8 : dI prog_6_method_8_code 8 (.bipush 32) 2 10 ∧ (Int8.ofInt 32).toInt32 = 32 := by decide +kernel
theorem d_P_step_10 : dI prog_6_method_8_code 10 (.invokevirtual 84) 3 13 := by decide +kernel
theorem d_P_step_13 : dI prog_6_method_8_code 13 (.putfield 29) 3 16 := by decide +kernel
theorem d_P_step_16 : dI prog_6_method_8_code 16 (.aload_n 0) 1 17 := by decide +kernel
theorem d_P_step_17 : dI prog_6_method_8_code 17 (.aload_n 0) 1 18 := by decide +kernel
theorem d_P_step_18 : dI prog_6_method_8_code 18 (.getfield 29) 3 21 := by decide +kernel
theorem d_P_step_21 : dI prog_6_method_8_code 21 (.putfield 19) 3 24 := by decide +kernel
theorem d_P_step_24 : dI prog_6_method_8_code 24 (.aload_n 0) 1 25 := by decide +kernel
theorem d_P_step_25 : dI prog_6_method_8_code 25 (.getfield 29) 3 28 := by decide +kernel
theorem d_P_step_28 : dI prog_6_method_8_code 28 (.aload_n 0) 1 29 := by decide +kernel
theorem d_P_step_29 : dI prog_6_method_8_code 29 (.getfield 15) 3 32 := by decide +kernel
theorem d_P_step_32 : dJ prog_6_method_8_code 32 (.if_icmp .ge 12) 12 35 44 := by decide +kernel
theorem d_P_step_35 : dI prog_6_method_8_code 35 (.aload_n 0) 1 36 := by decide +kernel
theorem d_P_step_36 : dI prog_6_method_8_code 36 (.getfield 29) 3 39 := by decide +kernel
theorem d_P_step_39 : dI prog_6_method_8_code 39 (.bipush 120) 2 41 ∧ (Int8.ofInt 120).toInt32 = 120 := by decide +kernel
theorem d_P_step_41 : dJ prog_6_method_8_code 41 (.if_icmp .lt 9) 9 44 50 := by decide +kernel
theorem d_P_step_44 : dI prog_6_method_8_code 44 (.aload_n 0) 1 45 := by decide +kernel
theorem d_P_step_45 : dI prog_6_method_8_code 45 (.iconst 0) 1 46 ∧ Int32.ofInt 0 = 0 := by decide +kernel
theorem d_P_step_46 : dI prog_6_method_8_code 46 (.putfield 32) 3 49 := by decide +kernel
theorem d_P_step_49 : decode prog_6_method_8_code 49 = .ok (.return_, 1) := by decide +kernel
theorem d_P_step_50 : dI prog_6_method_8_code 50 (.aload_n 0) 1 51 := by decide +kernel
theorem d_P_step_51 : dI prog_6_method_8_code 51 (.getfield 9) 3 54 := by decide +kernel
theorem d_P_step_54 : dI prog_6_method_8_code 54 (.aload_n 0) 1 55 := by decide +kernel
theorem d_P_step_55 : dI prog_6_method_8_code 55 (.getfield 29) 3 58 := by decide +kernel
theorem d_P_step_58 : dI prog_6_method_8_code 58 .iaload 1 59 := by decide +kernel
theorem d_P_step_59 : dI prog_6_method_8_code 59 (.istore_n 1) 1 60 := by decide +kernel
theorem d_P_step_60 : dI prog_6_method_8_code 60 (.iload_n 1) 1 61 := by decide +kernel
theorem d_P_step_61 : dI prog_6_method_8_code 61 (.bipush 97) 2 63 ∧ (Int8.ofInt 97).toInt32 = 97 := by decide +kernel
theorem d_P_step_63 : dJ prog_6_method_8_code 63 (.if_icmp .lt 33) 33 66 96 := by decide +kernel
theorem d_P_step_66 : dI prog_6_method_8_code 66 (.iload_n 1) 1 67 := by decide +kernel
theorem d_P_step_67 : dI prog_6_method_8_code 67 (.bipush 122) 2 69 ∧ (Int8.ofInt 122).toInt32 = 122 := by decide +kernel
theorem d_P_step_69 : dJ prog_6_method_8_code 69 (.if_icmp .gt 27) 27 72 96 := by decide +kernel
theorem d_P_step_72 : dI prog_6_method_8_code 72 (.aload_n 0) 1 73 := by decide +kernel
theorem d_P_step_73 : dI prog_6_method_8_code 73 (.iconst 1) 1 74 ∧ Int32.ofInt 1 = 1 := by decide +kernel
theorem d_P_step_74 : dI prog_6_method_8_code 74 (.putfield 32) 3 77 := by decide +kernel
theorem d_P_step_77 : dI prog_6_method_8_code 77 (.aload_n 0) 1 78 := by decide +kernel
theorem d_P_step_78 : dI prog_6_method_8_code 78 (.aload_n 0) 1 79 := by decide +kernel
theorem d_P_step_79 : dI prog_6_method_8_code 79 (.aload_n 0) 1 80 := by decide +kernel
theorem d_P_step_80 : dI prog_6_method_8_code 80 (.getfield 29) 3 83 := by decide +kernel
theorem d_P_step_83 : dI prog_6_method_8_code 83 (.bipush 97) 2 85 ∧ (Int8.ofInt 97).toInt32 = 97 := by decide +kernel
theorem d_P_step_85 : dI prog_6_method_8_code 85 (.bipush 122) 2 87 ∧ (Int8.ofInt 122).toInt32 = 122 := by decide +kernel
theorem d_P_step_87 : dI prog_6_method_8_code 87 (.invokevirtual 84) 3 90 := by decide +kernel
theorem d_P_step_90 : dI prog_6_method_8_code 90 (.putfield 19) 3 93 := by decide +kernel
theorem d_P_step_93 : dJ prog_6_method_8_code 93 (.goto 72) 72 96 165 := by decide +kernel
theorem d_P_step_96 : dI prog_6_method_8_code 96 (.iload_n 1) 1 97 := by decide +kernel
theorem d_P_step_97 : dI prog_6_method_8_code 97 (.bipush 48) 2 99 ∧ (Int8.ofInt 48).toInt32 = 48 := by decide +kernel
theorem d_P_step_99 : dJ prog_6_method_8_code 99 (.if_icmp .lt 41) 41 102 140 := by decide +kernel
theorem d_P_step_102 : dI prog_6_method_8_code 102 (.iload_n 1) 1 103 := by decide +kernel
theorem d_P_step_103 : dI prog_6_method_8_code 103 (.bipush 57) 2 105 ∧ (Int8.ofInt 57).toInt32 = 57 := by decide +kernel
theorem d_P_step_105 : dJ prog_6_method_8_code 105 (.if_icmp .gt 35) 35 108 140 := by decide +kernel
theorem d_P_step_108 : dI prog_6_method_8_code 108 (.aload_n 0) 1 109 := by decide +kernel
theorem d_P_step_109 : dI prog_6_method_8_code 109 (.iconst 2) 1 110 ∧ Int32.ofInt 2 = 2 := by decide +kernel
theorem d_P_step_110 : dI prog_6_method_8_code 110 (.putfield 32) 3 113 := by decide +kernel
theorem d_P_step_113 : dI prog_6_method_8_code 113 (.aload_n 0) 1 114 := by decide +kernel
theorem d_P_step_114 : dI prog_6_method_8_code 114 (.aload_n 0) 1 115 := by decide +kernel
theorem d_P_step_115 : dI prog_6_method_8_code 115 (.aload_n 0) 1 116 := by decide +kernel
theorem d_P_step_116 : dI prog_6_method_8_code 116 (.getfield 29) 3 119 := by decide +kernel
theorem d_P_step_119 : dI prog_6_method_8_code 119 (.bipush 48) 2 121 ∧ (Int8.ofInt 48).toInt32 = 48 := by decide +kernel
theorem d_P_step_121 : dI prog_6_method_8_code 121 (.bipush 57) 2 123 ∧ (Int8.ofInt 57).toInt32 = 57 := by decide +kernel
theorem d_P_step_123 : dI prog_6_method_8_code 123 (.invokevirtual 84) 3 126 := by decide +kernel
theorem d_P_step_126 : dI prog_6_method_8_code 126 (.putfield 19) 3 129 := by decide +kernel
theorem d_P_step_129 : dI prog_6_method_8_code 129 (.aload_n 0) 1 130 := by decide +kernel
theorem d_P_step_130 : dI prog_6_method_8_code 130 (.aload_n 0) 1 131 := by decide +kernel
theorem d_P_step_131 : dI prog_6_method_8_code 131 (.invokevirtual 88) 3 134 := by decide +kernel
theorem d_P_step_134 : dI prog_6_method_8_code 134 (.putfield 55) 3 137 := by decide +kernel
theorem d_P_step_137 : dJ prog_6_method_8_code 137 (.goto 28) 28 140 165 := by decide +kernel
theorem d_P_step_140 : dI prog_6_method_8_code 140 (.aload_n 0) 1 141 := by decide +kernel
theorem d_P_step_141 : dI prog_6_method_8_code 141 (.iload_n 1) 1 142 := by decide +kernel
theorem d_P_step_142 : dI prog_6_method_8_code 142 (.bipush 59) 2 144 ∧ (Int8.ofInt 59).toInt32 = 59 := by decide +kernel
theorem d_P_step_144 : dJ prog_6_method_8_code 144 (.if_icmp .ne 7) 7 147 151 := by decide +kernel
theorem d_P_step_147 : dI prog_6_method_8_code 147 (.iconst 3) 1 148 ∧ Int32.ofInt 3 = 3 := by decide +kernel
theorem d_P_step_148 : dJ prog_6_method_8_code 148 (.goto 4) 4 151 152 := by decide +kernel
theorem d_P_step_151 : dI prog_6_method_8_code 151 (.iconst 4) 1 152 ∧ Int32.ofInt 4 = 4 := by decide +kernel
theorem d_P_step_152 : dI prog_6_method_8_code 152 (.putfield 32) 3 155 := by decide +kernel
theorem d_P_step_155 : dI prog_6_method_8_code 155 (.aload_n 0) 1 156 := by decide +kernel
theorem d_P_step_156 : dI prog_6_method_8_code 156 (.aload_n 0) 1 157 := by decide +kernel
theorem d_P_step_157 : dI prog_6_method_8_code 157 (.getfield 29) 3 160 := by decide +kernel
theorem d_P_step_160 : dI prog_6_method_8_code 160 (.iconst 1) 1 161 ∧ Int32.ofInt 1 = 1 := by decide +kernel
theorem d_P_step_161 : dI prog_6_method_8_code 161 .iadd 1 162 := by decide +kernel
theorem d_P_step_162 : dI prog_6_method_8_code 162 (.putfield 19) 3 165 := by decide +kernel
theorem d_P_step_165 : decode prog_6_method_8_code 165 = .ok (.return_, 1) := by decide +kernel
theorem d_P_endOfRun_0 : dI prog_6_method_9_code 0 (.iconst 0) 1 1 ∧ Int32.ofInt 0 = 0 := by decide +kernel
theorem d_P_endOfRun_1 : dI prog_6_method_9_code 1 (.iload_n 1) 1 2 := by decide +kernel
theorem d_P_endOfRun_2 : dI prog_6_method_9_code 2 (.invokestatic 91) 3 5 := by decide +kernel
theorem d_P_endOfRun_5 : dI prog_6_method_9_code 5 (.istore 4) 2 7 := by decide +kernel
theorem d_P_endOfRun_7 : dI prog_6_method_9_code 7 (.iload 4) 2 9 := by decide +kernel
theorem d_P_endOfRun_9 : dI prog_6_method_9_code 9 (.aload_n 0) 1 10 := by decide +kernel
theorem d_P_endOfRun_10 : dI prog_6_method_9_code 10 (.getfield 15) 3 13 := by decide +kernel
theorem d_P_endOfRun_13 : dJ prog_6_method_9_code 13 (.if_icmp .ge 38) 38 16 51 := by decide +kernel
theorem d_P_endOfRun_16 : dI prog_6_method_9_code 16 (.iload 4) 2 18 := by decide +kernel
theorem d_P_endOfRun_18 : dI prog_6_method_9_code 18 (.bipush 120) 2 20 ∧ (Int8.ofInt 120).toInt32 = 120 := by decide +kernel
theorem d_P_endOfRun_20 : dJ prog_6_method_9_code 20 (.if_icmp .ge 31) 31 23 51 := by decide +kernel
theorem d_P_endOfRun_23 : dI prog_6_method_9_code 23 (.aload_n 0) 1 24 := by decide +kernel
theorem d_P_endOfRun_24 : dI prog_6_method_9_code 24 (.getfield 9) 3 27 := by decide +kernel
theorem d_P_endOfRun_27 : dI prog_6_method_9_code 27 (.iload 4) 2 29 := by decide +kernel
theorem d_P_endOfRun_29 : dI prog_6_method_9_code 29 .iaload 1 30 := by decide +kernel
theorem d_P_endOfRun_30 : dI prog_6_method_9_code 30 (.iload_n 2) 1 31 := by decide +kernel
theorem d_P_endOfRun_31 : dJ prog_6_method_9_code 31 (.if_icmp .lt 20) 20 34 51 := by decide +kernel
theorem d_P_endOfRun_34 : dI prog_6_method_9_code 34 (.aload_n 0) 1 35 := by decide +kernel
theorem d_P_endOfRun_35 : dI prog_6_method_9_code 35 (.getfield 9) 3 38 := by decide +kernel
theorem d_P_endOfRun_38 : dI prog_6_method_9_code 38 (.iload 4) 2 40 := by decide +kernel
theorem d_P_endOfRun_40 : dI prog_6_method_9_code 40 .iaload 1 41 := by decide +kernel
theorem d_P_endOfRun_41 : dI prog_6_method_9_code 41 (.iload_n 3) 1 42 := by decide +kernel
theorem d_P_endOfRun_42 : dJ prog_6_method_9_code 42 (.if_icmp .gt 9) 9 45 51 := by decide +kernel
theorem d_P_endOfRun_45 : dI prog_6_method_9_code 45 (.iinc 4 1) 3 48 ∧ Int32.ofInt 1 = 1 := by decide +kernel
theorem d_P_endOfRun_48 : dJ prog_6_method_9_code 48 (.goto (-41)) (-41) 51 7 := by decide +kernel
theorem d_P_endOfRun_51 : dI prog_6_method_9_code 51 (.iload 4) 2 53 := by decide +kernel
theorem d_P_endOfRun_53 : decode prog_6_method_9_code 53 = .ok (.ireturn, 1) := by decide +kernel
theorem d_P_numberRead_0 : dI prog_6_method_10_code 0 (.iconst 0) 1 1 ∧ Int32.ofInt 0 = 0 := by decide +kernel
theorem d_P_numberRead_1 : dI prog_6_method_10_code 1 (.istore_n 1) 1 2 := by decide +kernel
theorem d_P_numberRead_2 : dI prog_6_method_10_code 2 (.aload_n 0) 1 3 := by decide +kernel
theorem d_P_numberRead_3 : dI prog_6_method_10_code 3 (.getfield 29) 3 6 := by decide +kernel
theorem d_P_numberRead_6 : dI prog_6_method_10_code 6 (.istore_n 2) 1 7 := by decide +kernel
theorem d_P_numberRead_7 : dI prog_6_method_10_code 7 (.iload_n 2) 1 8 := by decide +kernel
theorem d_P_numberRead_8 : dI prog_6_method_10_code 8 (.aload_n 0) 1 9 := by decide +kernel
theorem d_P_numberRead_9 : dI prog_6_method_10_code 9 (.getfield 19) 3 12 := by decide +kernel
theorem d_P_numberRead_12 : dJ prog_6_method_10_code 12 (.if_icmp .ge 30) 30 15 42 := by decide +kernel
theorem d_P_numberRead_15 : dI prog_6_method_10_code 15 (.sipush 10000) 3 18 ∧ (Int16.ofInt 10000).toInt32 = 10000 := by decide +kernel
theorem d_P_numberRead_18 : dI prog_6_method_10_code 18 (.iload_n 1) 1 19 := by decide +kernel
theorem d_P_numberRead_19 : dI prog_6_method_10_code 19 (.bipush 10) 2 21 ∧ (Int8.ofInt 10).toInt32 = 10 := by decide +kernel
theorem d_P_numberRead_21 : dI prog_6_method_10_code 21 .imul 1 22 := by decide +kernel
theorem d_P_numberRead_22 : dI prog_6_method_10_code 22 (.aload_n 0) 1 23 := by decide +kernel
theorem d_P_numberRead_23 : dI prog_6_method_10_code 23 (.getfield 9) 3 26 := by decide +kernel
theorem d_P_numberRead_26 : dI prog_6_method_10_code 26 (.iload_n 2) 1 27 := by decide +kernel
theorem d_P_numberRead_27 : dI prog_6_method_10_code 27 .iaload 1 28 := by decide +kernel
theorem d_P_numberRead_28 : dI prog_6_method_10_code 28 .iadd 1 29 := by decide +kernel
theorem d_P_numberRead_29 : dI prog_6_method_10_code 29 (.bipush 48) 2 31 ∧ (Int8.ofInt 48).toInt32 = 48 := by decide +kernel
theorem d_P_numberRead_31 : dI prog_6_method_10_code 31 .isub 1 32 := by decide +kernel
theorem d_P_numberRead_32 : dI prog_6_method_10_code 32 (.invokestatic 97) 3 35 := by decide +kernel
theorem d_P_numberRead_35 : dI prog_6_method_10_code 35 (.istore_n 1) 1 36 := by decide +kernel
theorem d_P_numberRead_36 : dI prog_6_method_10_code 36 (.iinc 2 1) 3 39 ∧ Int32.ofInt 1 = 1 := by decide +kernel
theorem d_P_numberRead_39 : dJ prog_6_method_10_code 39 (.goto (-32)) (-32) 42 7 := by decide +kernel
theorem d_P_numberRead_42 : dI prog_6_method_10_code 42 (.iload_n 1) 1 43 := by decide +kernel
theorem d_P_numberRead_43 : decode prog_6_method_10_code 43 = .ok (.ireturn, 1) := by decide +kernel
theorem d_P_wordRead_0 : dI prog_6_method_11_code 0 (.iconst 0) 1 1 ∧ Int32.ofInt 0 = 0 := by decide +kernel
theorem d_P_wordRead_1 : dI prog_6_method_11_code 1 (.istore_n 1) 1 2 := by decide +kernel
theorem d_P_wordRead_2 : dI prog_6_method_11_code 2 (.iload_n 1) 1 3 := by decide +kernel
theorem d_P_wordRead_3 : dI prog_6_method_11_code 3 (.bipush 14) 2 5 ∧ (Int8.ofInt 14).toInt32 = 14 := by decide +kernel
theorem d_P_wordRead_5 : dJ prog_6_method_11_code 5 (.if_icmp .ge 22) 22 8 27 := by decide +kernel
theorem d_P_wordRead_8 : dI prog_6_method_11_code 8 (.aload_n 0) 1 9 := by decide +kernel
theorem d_P_wordRead_9 : dI prog_6_method_11_code 9 (.iload_n 1) 1 10 := by decide +kernel
theorem d_P_wordRead_10 : dI prog_6_method_11_code 10 (.invokestatic 100) 3 13 := by decide +kernel
theorem d_P_wordRead_13 : dI prog_6_method_11_code 13 (.invokevirtual 104) 3 16 := by decide +kernel
theorem d_P_wordRead_16 : dJ prog_6_method_11_code 16 (.ifCond .eq 5) 5 19 21 := by decide +kernel
theorem d_P_wordRead_19 : dI prog_6_method_11_code 19 (.iload_n 1) 1 20 := by decide +kernel
theorem d_P_wordRead_20 : decode prog_6_method_11_code 20 = .ok (.ireturn, 1) := by decide +kernel
theorem d_P_wordRead_21 : dI prog_6_method_11_code 21 (.iinc 1 1) 3 24 ∧ Int32.ofInt 1 = 1 := by decide +kernel
theorem d_P_wordRead_24 : dJ prog_6_method_11_code 24 (.goto (-22)) (-22) 27 2 := by decide +kernel
theorem d_P_wordRead_27 : dI prog_6_method_11_code 27 (.iconst (-1)) 1 28 ∧ Int32.ofInt (-1) = (-1) := by decide +kernel
theorem d_P_wordRead_28 : decode prog_6_method_11_code 28 = .ok (.ireturn, 1) := by decide +kernel
theorem d_P_spells_0 : dI prog_6_method_12_code 0 (.aload_n 1) 1 1 := by decide +kernel
theorem d_P_spells_1 : dI prog_6_method_12_code 1 (.invokevirtual 108) 3 4 := by decide +kernel
theorem d_P_spells_4 : dI prog_6_method_12_code 4 (.aload_n 0) 1 5 := by decide +kernel
theorem d_P_spells_5 : dI prog_6_method_12_code 5 (.getfield 19) 3 8 := by decide +kernel
theorem d_P_spells_8 : dI prog_6_method_12_code 8 (.aload_n 0) 1 9 := by decide +kernel
theorem d_P_spells_9 : dI prog_6_method_12_code 9 (.getfield 29) 3 12 := by decide +kernel
theorem d_P_spells_12 : dI prog_6_method_12_code 12 .isub 1 13 := by decide +kernel
theorem d_P_spells_13 : dJ prog_6_method_12_code 13 (.if_icmp .eq 5) 5 16 18 := by decide +kernel
theorem d_P_spells_16 : dI prog_6_method_12_code 16 (.iconst 0) 1 17 ∧ Int32.ofInt 0 = 0 := by decide +kernel
theorem d_P_spells_17 : decode prog_6_method_12_code 17 = .ok (.ireturn, 1) := by decide +kernel
theorem d_P_spells_18 : dI prog_6_method_12_code 18 (.iconst 0) 1 19 ∧ Int32.ofInt 0 = 0 := by decide +kernel
theorem d_P_spells_19 : dI prog_6_method_12_code 19 (.istore_n 2) 1 20 := by decide +kernel
theorem d_P_spells_20 : dI prog_6_method_12_code 20 (.iload_n 2) 1 21 := by decide +kernel
theorem d_P_spells_21 : dI prog_6_method_12_code 21 (.aload_n 1) 1 22 := by decide +kernel
theorem d_P_spells_22 : dI prog_6_method_12_code 22 (.invokevirtual 108) 3 25 := by decide +kernel
theorem d_P_spells_25 : dJ prog_6_method_12_code 25 (.if_icmp .ge 30) 30 28 55 := by decide +kernel
theorem d_P_spells_28 : dI prog_6_method_12_code 28 (.aload_n 0) 1 29 := by decide +kernel
theorem d_P_spells_29 : dI prog_6_method_12_code 29 (.getfield 9) 3 32 := by decide +kernel
theorem d_P_spells_32 : dI prog_6_method_12_code 32 (.aload_n 0) 1 33 := by decide +kernel
theorem d_P_spells_33 : dI prog_6_method_12_code 33 (.getfield 29) 3 36 := by decide +kernel
theorem d_P_spells_36 : dI prog_6_method_12_code 36 (.iload_n 2) 1 37 := by decide +kernel
theorem d_P_spells_37 : dI prog_6_method_12_code 37 .iadd 1 38 := by decide +kernel
theorem d_P_spells_38 : dI prog_6_method_12_code 38 .iaload 1 39 := by decide +kernel
theorem d_P_spells_39 : dI prog_6_method_12_code 39 (.aload_n 1) 1 40 := by decide +kernel
theorem d_P_spells_40 : dI prog_6_method_12_code 40 (.iload_n 2) 1 41 := by decide +kernel
theorem d_P_spells_41 : dI prog_6_method_12_code 41 (.invokevirtual 112) 3 44 := by decide +kernel
theorem d_P_spells_44 : dJ prog_6_method_12_code 44 (.if_icmp .eq 5) 5 47 49 := by decide +kernel
theorem d_P_spells_47 : dI prog_6_method_12_code 47 (.iconst 0) 1 48 ∧ Int32.ofInt 0 = 0 := by decide +kernel
theorem d_P_spells_48 : decode prog_6_method_12_code 48 = .ok (.ireturn, 1) := by decide +kernel
theorem d_P_spells_49 : dI prog_6_method_12_code 49 (.iinc 2 1) 3 52 ∧ Int32.ofInt 1 = 1 := by decide +kernel
theorem d_P_spells_52 : dJ prog_6_method_12_code 52 (.goto (-32)) (-32) 55 20 := by decide +kernel
theorem d_P_spells_55 : dI prog_6_method_12_code 55 (.iconst 1) 1 56 ∧ Int32.ofInt 1 = 1 := by decide +kernel
theorem d_P_spells_56 : decode prog_6_method_12_code 56 = .ok (.ireturn, 1) := by decide +kernel
theorem d_P_wordOf_0 : dI prog_6_method_13_code 0 (.iload_n 0) 1 1 := by decide +kernel
theorem d_P_wordOf_1 : decode prog_6_method_13_code 1 = .ok (.tableswitch 106 0 12 #[67, 70, 73, 76, 79, 82, 85, 88, 91, 94, 97, 100, 103], 67) := by decide +kernel
theorem d_P_wordOf_68 : dI prog_6_method_13_code 68 (.ldc 116) 2 70 := by decide +kernel
theorem d_P_wordOf_70 : decode prog_6_method_13_code 70 = .ok (.areturn, 1) := by decide +kernel
theorem d_P_wordOf_71 : dI prog_6_method_13_code 71 (.ldc 118) 2 73 := by decide +kernel
theorem d_P_wordOf_73 : decode prog_6_method_13_code 73 = .ok (.areturn, 1) := by decide +kernel
theorem d_P_wordOf_74 : dI prog_6_method_13_code 74 (.ldc 120) 2 76 := by decide +kernel
theorem d_P_wordOf_76 : decode prog_6_method_13_code 76 = .ok (.areturn, 1) := by decide +kernel
theorem d_P_wordOf_77 : dI prog_6_method_13_code 77 (.ldc 122) 2 79 := by decide +kernel
theorem d_P_wordOf_79 : decode prog_6_method_13_code 79 = .ok (.areturn, 1) := by decide +kernel
theorem d_P_wordOf_80 : dI prog_6_method_13_code 80 (.ldc 124) 2 82 := by decide +kernel
theorem d_P_wordOf_82 : decode prog_6_method_13_code 82 = .ok (.areturn, 1) := by decide +kernel
theorem d_P_wordOf_83 : dI prog_6_method_13_code 83 (.ldc 126) 2 85 := by decide +kernel
theorem d_P_wordOf_85 : decode prog_6_method_13_code 85 = .ok (.areturn, 1) := by decide +kernel
theorem d_P_wordOf_86 : dI prog_6_method_13_code 86 (.ldc 128) 2 88 := by decide +kernel
theorem d_P_wordOf_88 : decode prog_6_method_13_code 88 = .ok (.areturn, 1) := by decide +kernel
theorem d_P_wordOf_89 : dI prog_6_method_13_code 89 (.ldc 130) 2 91 := by decide +kernel
theorem d_P_wordOf_91 : decode prog_6_method_13_code 91 = .ok (.areturn, 1) := by decide +kernel
theorem d_P_wordOf_92 : dI prog_6_method_13_code 92 (.ldc 132) 2 94 := by decide +kernel
theorem d_P_wordOf_94 : decode prog_6_method_13_code 94 = .ok (.areturn, 1) := by decide +kernel
theorem d_P_wordOf_95 : dI prog_6_method_13_code 95 (.ldc 134) 2 97 := by decide +kernel
theorem d_P_wordOf_97 : decode prog_6_method_13_code 97 = .ok (.areturn, 1) := by decide +kernel
theorem d_P_wordOf_98 : dI prog_6_method_13_code 98 (.ldc 136) 2 100 := by decide +kernel
theorem d_P_wordOf_100 : decode prog_6_method_13_code 100 = .ok (.areturn, 1) := by decide +kernel
theorem d_P_wordOf_101 : dI prog_6_method_13_code 101 (.ldc 138) 2 103 := by decide +kernel
theorem d_P_wordOf_103 : decode prog_6_method_13_code 103 = .ok (.areturn, 1) := by decide +kernel
theorem d_P_wordOf_104 : dI prog_6_method_13_code 104 (.ldc 140) 2 106 := by decide +kernel
theorem d_P_wordOf_106 : decode prog_6_method_13_code 106 = .ok (.areturn, 1) := by decide +kernel
theorem d_P_wordOf_107 : dI prog_6_method_13_code 107 (.ldc 142) 2 109 := by decide +kernel
theorem d_P_wordOf_109 : decode prog_6_method_13_code 109 = .ok (.areturn, 1) := by decide +kernel
