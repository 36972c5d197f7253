theorem d_M_isWord_56 : dI prog_8_method_47_code 56 (.iload_n 3) 1 57 := by decide +kernel
theorem d_M_isWord_57 : dI prog_8_method_47_code 57 (.invokevirtual 160) 3 60 := by decide +kernel
theorem d_M_isWord_60 : dJ prog_8_method_47_code 60 (.if_icmp .ne 7) 7 63 67 := by decide +kernel
theorem d_M_isWord_63 : dI prog_8_method_47_code 63 (.iconst 1) 1 64 ∧ Int32.ofInt 1 = 1 := by decide +kernel
theorem d_M_isWord_64 : dJ prog_8_method_47_code 64 (.goto 4) 4 67 68 := by decide +kernel
theorem d_M_isWord_67 : dI prog_8_method_47_code 67 (.iconst 0) 1 68 ∧ Int32.ofInt 0 = 0 := by decide +kernel
theorem d_M_isWord_68 : dI prog_8_method_47_code 68 (.istore_n 2) 1 69 := by decide +kernel
theorem d_M_isWord_69 : dI prog_8_method_47_code 69 (.iinc 3 1) 3 72 ∧ Int32.ofInt 1 = 1 := by decide +kernel
theorem d_M_isWord_72 : dJ prog_8_method_47_code 72 (.goto (-40)) (-40) 75 32 := by decide +kernel
theorem d_M_isWord_75 : dI prog_8_method_47_code 75 (.iload_n 2) 1 76 := by decide +kernel
theorem d_M_isWord_76 : decode prog_8_method_47_code 76 = .ok (.ireturn, 1) := by decide +kernel
theorem d_M_isNumber_0 : dI prog_8_method_48_code 0 (.aload_n 0) 1 1 := by decide +kernel
theorem d_M_isNumber_1 : dI prog_8_method_48_code 1 (.getfield 149) 3 4 := by decide +kernel
theorem d_M_isNumber_4 : dI prog_8_method_48_code 4 (.iconst 2) 1 5 ∧ Int32.ofInt 2 = 2 := by decide +kernel
theorem d_M_isNumber_5 : dJ prog_8_method_48_code 5 (.if_icmp .ne 19) 19 8 24 := by decide +kernel
theorem d_M_isNumber_8 : dI prog_8_method_48_code 8 (.aload_n 0) 1 9 := by decide +kernel
theorem d_M_isNumber_9 : dI prog_8_method_48_code 9 (.getfield 152) 3 12 := by decide +kernel
theorem d_M_isNumber_12 : dI prog_8_method_48_code 12 (.iload_n 1) 1 13 := by decide +kernel
theorem d_M_isNumber_13 : dI prog_8_method_48_code 13 (.iload_n 2) 1 14 := by decide +kernel
theorem d_M_isNumber_14 : dI prog_8_method_48_code 14 (.invokestatic 45) 3 17 := by decide +kernel
theorem d_M_isNumber_17 : dJ prog_8_method_48_code 17 (.ifCond .eq 7) 7 20 24 := by decide +kernel
theorem d_M_isNumber_20 : dI prog_8_method_48_code 20 (.iconst 1) 1 21 ∧ Int32.ofInt 1 = 1 := by decide +kernel
theorem d_M_isNumber_21 : dJ prog_8_method_48_code 21 (.goto 4) 4 24 25 := by decide +kernel
theorem d_M_isNumber_24 : dI prog_8_method_48_code 24 (.iconst 0) 1 25 ∧ Int32.ofInt 0 = 0 := by decide +kernel
theorem d_M_isNumber_25 : decode prog_8_method_48_code 25 = .ok (.ireturn, 1) := by decide +kernel
theorem d_M_takesSand_0 : dI prog_8_method_49_code 0 (.aload_n 0) 1 1 := by decide +kernel
theorem d_M_takesSand_1 : dI prog_8_method_49_code 1 (.invokevirtual 164) 3 4 := by decide +kernel
theorem d_M_takesSand_4 : dI prog_8_method_49_code 4 (.aload_n 0) 1 5 := by decide +kernel
theorem d_M_takesSand_5 : dI prog_8_method_49_code 5 (.iconst 0) 1 6 ∧ Int32.ofInt 0 = 0 := by decide +kernel
theorem d_M_takesSand_6 : dI prog_8_method_49_code 6 (.bipush 39) 2 8 ∧ (Int8.ofInt 39).toInt32 = 39 := by decide +kernel
theorem d_M_takesSand_8 : dI prog_8_method_49_code 8 (.invokevirtual 167) 3 11 := by decide +kernel
theorem d_M_takesSand_11 : dJ prog_8_method_49_code 11 (.ifCond .ne 5) 5 14 16 := by decide +kernel
theorem d_M_takesSand_14 : dI prog_8_method_49_code 14 (.iconst 0) 1 15 ∧ Int32.ofInt 0 = 0 := by decide +kernel
theorem d_M_takesSand_15 : decode prog_8_method_49_code 15 = .ok (.ireturn, 1) := by decide +kernel
theorem d_M_takesSand_16 : dI prog_8_method_49_code 16 (.aload_n 0) 1 17 := by decide +kernel
theorem d_M_takesSand_17 : dI prog_8_method_49_code 17 (.getfield 152) 3 20 := by decide +kernel
theorem d_M_takesSand_20 : dI prog_8_method_49_code 20 (.istore_n 1) 1 21 := by decide +kernel
theorem d_M_takesSand_21 : dI prog_8_method_49_code 21 (.iconst 0) 1 22 ∧ Int32.ofInt 0 = 0 := by decide +kernel
theorem d_M_takesSand_22 : dI prog_8_method_49_code 22 (.istore_n 2) 1 23 := by decide +kernel
theorem d_M_takesSand_23 : dI prog_8_method_49_code 23 (.aload_n 0) 1 24 := by decide +kernel
theorem d_M_takesSand_24 : dI prog_8_method_49_code 24 (.invokevirtual 164) 3 27 := by decide +kernel
theorem d_M_takesSand_27 : dI prog_8_method_49_code 27 (.aload_n 0) 1 28 := by decide +kernel
theorem d_M_takesSand_28 : dI prog_8_method_49_code 28 (.iconst 0) 1 29 ∧ Int32.ofInt 0 = 0 := by decide +kernel
theorem d_M_takesSand_29 : dI prog_8_method_49_code 29 (.bipush 99) 2 31 ∧ (Int8.ofInt 99).toInt32 = 99 := by decide +kernel
theorem d_M_takesSand_31 : dI prog_8_method_49_code 31 (.invokevirtual 167) 3 34 := by decide +kernel
theorem d_M_takesSand_34 : dJ prog_8_method_49_code 34 (.ifCond .eq 35) 35 37 69 := by decide +kernel
theorem d_M_takesSand_37 : dI prog_8_method_49_code 37 (.iload_n 1) 1 38 := by decide +kernel
theorem d_M_takesSand_38 : dI prog_8_method_49_code 38 (.bipush 40) 2 40 ∧ (Int8.ofInt 40).toInt32 = 40 := by decide +kernel
theorem d_M_takesSand_40 : dJ prog_8_method_49_code 40 (.if_icmp .ge 29) 29 43 69 := by decide +kernel
theorem d_M_takesSand_43 : dI prog_8_method_49_code 43 (.aload_n 0) 1 44 := by decide +kernel
theorem d_M_takesSand_44 : dI prog_8_method_49_code 44 (.getfield 7) 3 47 := by decide +kernel
theorem d_M_takesSand_47 : dI prog_8_method_49_code 47 (.bipush 12) 2 49 ∧ (Int8.ofInt 12).toInt32 = 12 := by decide +kernel
theorem d_M_takesSand_49 : dI prog_8_method_49_code 49 (.iload_n 1) 1 50 := by decide +kernel
theorem d_M_takesSand_50 : dI prog_8_method_49_code 50 .iadd 1 51 := by decide +kernel
theorem d_M_takesSand_51 : dI prog_8_method_49_code 51 (.aload_n 0) 1 52 := by decide +kernel
theorem d_M_takesSand_52 : dI prog_8_method_49_code 52 (.getfield 152) 3 55 := by decide +kernel
theorem d_M_takesSand_55 : dI prog_8_method_49_code 55 .iastore 1 56 := by decide +kernel
theorem d_M_takesSand_56 : dI prog_8_method_49_code 56 (.iinc 1 1) 3 59 ∧ Int32.ofInt 1 = 1 := by decide +kernel
theorem d_M_takesSand_59 : dI prog_8_method_49_code 59 (.iinc 2 1) 3 62 ∧ Int32.ofInt 1 = 1 := by decide +kernel
theorem d_M_takesSand_62 : dI prog_8_method_49_code 62 (.aload_n 0) 1 63 := by decide +kernel
theorem d_M_takesSand_63 : dI prog_8_method_49_code 63 (.invokevirtual 164) 3 66 := by decide +kernel
theorem d_M_takesSand_66 : dJ prog_8_method_49_code 66 (.goto (-39)) (-39) 69 27 := by decide +kernel
theorem d_M_takesSand_69 : dI prog_8_method_49_code 69 (.iload_n 2) 1 70 := by decide +kernel
theorem d_M_takesSand_70 : dJ prog_8_method_49_code 70 (.ifCond .le 15) 15 73 85 := by decide +kernel
theorem d_M_takesSand_73 : dI prog_8_method_49_code 73 (.aload_n 0) 1 74 := by decide +kernel
theorem d_M_takesSand_74 : dI prog_8_method_49_code 74 (.getfield 149) 3 77 := by decide +kernel
theorem d_M_takesSand_77 : dI prog_8_method_49_code 77 (.iconst 2) 1 78 ∧ Int32.ofInt 2 = 2 := by decide +kernel
theorem d_M_takesSand_78 : dJ prog_8_method_49_code 78 (.if_icmp .eq 7) 7 81 85 := by decide +kernel
theorem d_M_takesSand_81 : dI prog_8_method_49_code 81 (.iconst 1) 1 82 ∧ Int32.ofInt 1 = 1 := by decide +kernel
theorem d_M_takesSand_82 : dJ prog_8_method_49_code 82 (.goto 4) 4 85 86 := by decide +kernel
theorem d_M_takesSand_85 : dI prog_8_method_49_code 85 (.iconst 0) 1 86 ∧ Int32.ofInt 0 = 0 := by decide +kernel
theorem d_M_takesSand_86 : decode prog_8_method_49_code 86 = .ok (.ireturn, 1) := by decide +kernel
theorem d_M_takesSet_0 : dI prog_8_method_50_code 0 (.aload_n 0) 1 1 := by decide +kernel
theorem d_M_takesSet_1 : dI prog_8_method_50_code 1 (.invokevirtual 164) 3 4 := by decide +kernel
theorem d_M_takesSet_4 : dI prog_8_method_50_code 4 (.aload_n 0) 1 5 := by decide +kernel
theorem d_M_takesSet_5 : dI prog_8_method_50_code 5 (.getfield 149) 3 8 := by decide +kernel
theorem d_M_takesSet_8 : dI prog_8_method_50_code 8 (.iconst 2) 1 9 ∧ Int32.ofInt 2 = 2 := by decide +kernel
theorem d_M_takesSet_9 : dJ prog_8_method_50_code 9 (.if_icmp .ne 14) 14 12 23 := by decide +kernel
theorem d_M_takesSet_12 : dI prog_8_method_50_code 12 (.iload_n 1) 1 13 := by decide +kernel
theorem d_M_takesSet_13 : dI prog_8_method_50_code 13 (.aload_n 0) 1 14 := by decide +kernel
theorem d_M_takesSet_14 : dI prog_8_method_50_code 14 (.getfield 152) 3 17 := by decide +kernel
theorem d_M_takesSet_17 : dI prog_8_method_50_code 17 (.invokestatic 71) 3 20 := by decide +kernel
theorem d_M_takesSet_20 : dJ prog_8_method_50_code 20 (.ifCond .ne 5) 5 23 25 := by decide +kernel
theorem d_M_takesSet_23 : dI prog_8_method_50_code 23 (.iconst 0) 1 24 ∧ Int32.ofInt 0 = 0 := by decide +kernel
theorem d_M_takesSet_24 : decode prog_8_method_50_code 24 = .ok (.ireturn, 1) := by decide +kernel
theorem d_M_takesSet_25 : dI prog_8_method_50_code 25 (.aload_n 0) 1 26 := by decide +kernel
theorem d_M_takesSet_26 : dI prog_8_method_50_code 26 (.getfield 7) 3 29 := by decide +kernel
theorem d_M_takesSet_29 : dI prog_8_method_50_code 29 (.iload_n 1) 1 30 := by decide +kernel
theorem d_M_takesSet_30 : dI prog_8_method_50_code 30 (.aload_n 0) 1 31 := by decide +kernel
theorem d_M_takesSet_31 : dI prog_8_method_50_code 31 (.getfield 152) 3 34 := by decide +kernel
theorem d_M_takesSet_34 : dI prog_8_method_50_code 34 .iastore 1 35 := by decide +kernel
theorem d_M_takesSet_35 : dI prog_8_method_50_code 35 (.aload_n 0) 1 36 := by decide +kernel
theorem d_M_takesSet_36 : dI prog_8_method_50_code 36 (.invokevirtual 164) 3 39 := by decide +kernel
theorem d_M_takesSet_39 : dI prog_8_method_50_code 39 (.iconst 1) 1 40 ∧ Int32.ofInt 1 = 1 := by decide +kernel
theorem d_M_takesSet_40 : decode prog_8_method_50_code 40 = .ok (.ireturn, 1) := by decide +kernel
theorem d_M_takesKind_0 : dI prog_8_method_51_code 0 (.aload_n 0) 1 1 := by decide +kernel
theorem d_M_takesKind_1 : dI prog_8_method_51_code 1 (.getfield 7) 3 4 := by decide +kernel
theorem d_M_takesKind_4 : dI prog_8_method_51_code 4 (.bipush 11) 2 6 ∧ (Int8.ofInt 11).toInt32 = 11 := by decide +kernel
theorem d_M_takesKind_6 : dI prog_8_method_51_code 6 .iaload 1 7 := by decide +kernel
theorem d_M_takesKind_7 : dI prog_8_method_51_code 7 (.bipush 20) 2 9 ∧ (Int8.ofInt 20).toInt32 = 20 := by decide +kernel
theorem d_M_takesKind_9 : dJ prog_8_method_51_code 9 (.if_icmp .ne 5) 5 12 14 := by decide +kernel
theorem d_M_takesKind_12 : dI prog_8_method_51_code 12 (.iconst 0) 1 13 ∧ Int32.ofInt 0 = 0 := by decide +kernel
theorem d_M_takesKind_13 : decode prog_8_method_51_code 13 = .ok (.ireturn, 1) := by decide +kernel
theorem d_M_takesKind_14 : dI prog_8_method_51_code 14 (.aload_n 0) 1 15 := by decide +kernel
theorem d_M_takesKind_15 : dI prog_8_method_51_code 15 (.invokevirtual 164) 3 18 := by decide +kernel
theorem d_M_takesKind_18 : dI prog_8_method_51_code 18 (.iconst 1) 1 19 ∧ Int32.ofInt 1 = 1 := by decide +kernel
theorem d_M_takesKind_19 : dI prog_8_method_51_code 19 (.istore_n 2) 1 20 := by decide +kernel
theorem d_M_takesKind_20 : dI prog_8_method_51_code 20 (.aload_n 0) 1 21 := by decide +kernel
theorem d_M_takesKind_21 : dI prog_8_method_51_code 21 (.getfield 149) 3 24 := by decide +kernel
theorem d_M_takesKind_24 : dI prog_8_method_51_code 24 (.iconst 2) 1 25 ∧ Int32.ofInt 2 = 2 := by decide +kernel
theorem d_M_takesKind_25 : dJ prog_8_method_51_code 25 (.if_icmp .ne 38) 38 28 63 := by decide +kernel
theorem d_M_takesKind_28 : dI prog_8_method_51_code 28 (.aload_n 0) 1 29 := by decide +kernel
theorem d_M_takesKind_29 : dI prog_8_method_51_code 29 (.getfield 152) 3 32 := by decide +kernel
theorem d_M_takesKind_32 : dI prog_8_method_51_code 32 (.istore_n 2) 1 33 := by decide +kernel
theorem d_M_takesKind_33 : dI prog_8_method_51_code 33 (.iload_n 2) 1 34 := by decide +kernel
theorem d_M_takesKind_34 : dI prog_8_method_51_code 34 (.iconst 1) 1 35 ∧ Int32.ofInt 1 = 1 := by decide +kernel
theorem d_M_takesKind_35 : dI prog_8_method_51_code 35 (.bipush 9) 2 37 ∧ (Int8.ofInt 9).toInt32 = 9 := by decide +kernel
theorem d_M_takesKind_37 : dI prog_8_method_51_code 37 (.invokestatic 45) 3 40 := by decide +kernel
theorem d_M_takesKind_40 : dJ prog_8_method_51_code 40 (.ifCond .eq 17) 17 43 57 := by decide +kernel
theorem d_M_takesKind_43 : dI prog_8_method_51_code 43 (.aload_n 0) 1 44 := by decide +kernel
theorem d_M_takesKind_44 : dI prog_8_method_51_code 44 (.getfield 7) 3 47 := by decide +kernel
theorem d_M_takesKind_47 : dI prog_8_method_51_code 47 (.bipush 11) 2 49 ∧ (Int8.ofInt 11).toInt32 = 11 := by decide +kernel
theorem d_M_takesKind_49 : dI prog_8_method_51_code 49 .iaload 1 50 := by decide +kernel
theorem d_M_takesKind_50 : dI prog_8_method_51_code 50 (.iload_n 2) 1 51 := by decide +kernel
theorem d_M_takesKind_51 : dI prog_8_method_51_code 51 .iadd 1 52 := by decide +kernel
theorem d_M_takesKind_52 : dI prog_8_method_51_code 52 (.bipush 20) 2 54 ∧ (Int8.ofInt 20).toInt32 = 20 := by decide +kernel
theorem d_M_takesKind_54 : dJ prog_8_method_51_code 54 (.if_icmp .le 5) 5 57 59 := by decide +kernel
theorem d_M_takesKind_57 : dI prog_8_method_51_code 57 (.iconst 0) 1 58 ∧ Int32.ofInt 0 = 0 := by decide +kernel
theorem d_M_takesKind_58 : decode prog_8_method_51_code 58 = .ok (.ireturn, 1) := by decide +kernel
theorem d_M_takesKind_59 : dI prog_8_method_51_code 59 (.aload_n 0) 1 60 := by decide +kernel
theorem d_M_takesKind_60 : dI prog_8_method_51_code 60 (.invokevirtual 164) 3 63 := by decide +kernel
theorem d_M_takesKind_63 : dI prog_8_method_51_code 63 (.iconst 0) 1 64 ∧ Int32.ofInt 0 = 0 := by decide +kernel
theorem d_M_takesKind_64 : dI prog_8_method_51_code 64 (.istore_n 3) 1 65 := by decide +kernel
theorem d_M_takesKind_65 : dI prog_8_method_51_code 65 (.iload_n 3) 1 66 := by decide +kernel
theorem d_M_takesKind_66 : dI prog_8_method_51_code 66 (.iload_n 2) 1 67 := by decide +kernel
theorem d_M_takesKind_67 : dJ prog_8_method_51_code 67 (.if_icmp .ge 36) 36 70 103 := by decide +kernel
theorem d_M_takesKind_70 : dI prog_8_method_51_code 70 (.aload_n 0) 1 71 := by decide +kernel
theorem d_M_takesKind_71 : dI prog_8_method_51_code 71 (.getfield 7) 3 74 := by decide +kernel
theorem d_M_takesKind_74 : dI prog_8_method_51_code 74 (.bipush 72) 2 76 ∧ (Int8.ofInt 72).toInt32 = 72 := by decide +kernel
theorem d_M_takesKind_76 : dI prog_8_method_51_code 76 (.aload_n 0) 1 77 := by decide +kernel
theorem d_M_takesKind_77 : dI prog_8_method_51_code 77 (.getfield 7) 3 80 := by decide +kernel
theorem d_M_takesKind_80 : dI prog_8_method_51_code 80 (.bipush 11) 2 82 ∧ (Int8.ofInt 11).toInt32 = 11 := by decide +kernel
theorem d_M_takesKind_82 : dI prog_8_method_51_code 82 .iaload 1 83 := by decide +kernel
theorem d_M_takesKind_83 : dI prog_8_method_51_code 83 .iadd 1 84 := by decide +kernel
theorem d_M_takesKind_84 : dI prog_8_method_51_code 84 (.iload_n 1) 1 85 := by decide +kernel
theorem d_M_takesKind_85 : dI prog_8_method_51_code 85 .iastore 1 86 := by decide +kernel
theorem d_M_takesKind_86 : dI prog_8_method_51_code 86 (.aload_n 0) 1 87 := by decide +kernel
theorem d_M_takesKind_87 : dI prog_8_method_51_code 87 (.getfield 7) 3 90 := by decide +kernel
theorem d_M_takesKind_90 : dI prog_8_method_51_code 90 (.bipush 11) 2 92 ∧ (Int8.ofInt 11).toInt32 = 11 := by decide +kernel
theorem d_M_takesKind_92 : dI prog_8_method_51_code 92 .dup2 1 93 := by decide +kernel
theorem d_M_takesKind_93 : dI prog_8_method_51_code 93 .iaload 1 94 := by decide +kernel
theorem d_M_takesKind_94 : dI prog_8_method_51_code 94 (.iconst 1) 1 95 ∧ Int32.ofInt 1 = 1 := by decide +kernel
theorem d_M_takesKind_95 : dI prog_8_method_51_code 95 .iadd 1 96 := by decide +kernel
theorem d_M_takesKind_96 : dI prog_8_method_51_code 96 .iastore 1 97 := by decide +kernel
theorem d_M_takesKind_97 : dI prog_8_method_51_code 97 (.iinc 3 1) 3 100 ∧ Int32.ofInt 1 = 1 := by decide +kernel
theorem d_M_takesKind_100 : dJ prog_8_method_51_code 100 (.goto (-35)) (-35) 103 65 := by decide +kernel
theorem d_M_takesKind_103 : dI prog_8_method_51_code 103 (.iconst 1) 1 104 ∧ Int32.ofInt 1 = 1 := by decide +kernel
theorem d_M_takesKind_104 : decode prog_8_method_51_code 104 = .ok (.ireturn, 1) := by decide +kernel
theorem d_M_takesItem_0 : dI prog_8_method_52_code 0 (.aload_n 0) 1 1 := by decide +kernel
theorem d_M_takesItem_1 : dI prog_8_method_52_code 1 (.ldc 170) 2 3 := by decide +kernel
theorem d_M_takesItem_3 : dI prog_8_method_52_code 3 (.invokevirtual 172) 3 6 := by decide +kernel
theorem d_M_takesItem_6 : dJ prog_8_method_52_code 6 (.ifCond .eq 8) 8 9 14 := by decide +kernel
theorem d_M_takesItem_9 : dI prog_8_method_52_code 9 (.aload_n 0) 1 10 := by decide +kernel
theorem d_M_takesItem_10 : dI prog_8_method_52_code 10 (.invokevirtual 176) 3 13 := by decide +kernel
theorem d_M_takesItem_13 : decode prog_8_method_52_code 13 = .ok (.ireturn, 1) := by decide +kernel
theorem d_M_takesItem_14 : dI prog_8_method_52_code 14 (.aload_n 0) 1 15 := by decide +kernel
theorem d_M_takesItem_15 : dI prog_8_method_52_code 15 (.ldc 179) 2 17 := by decide +kernel
theorem d_M_takesItem_17 : dI prog_8_method_52_code 17 (.invokevirtual 172) 3 20 := by decide +kernel
theorem d_M_takesItem_20 : dJ prog_8_method_52_code 20 (.ifCond .eq 7) 7 23 27 := by decide +kernel
theorem d_M_takesItem_23 : dI prog_8_method_52_code 23 (.iconst 2) 1 24 ∧ Int32.ofInt 2 = 2 := by decide +kernel
theorem d_M_takesItem_24 : dJ prog_8_method_52_code 24 (.goto 57) 57 27 81 := by decide +kernel
theorem d_M_takesItem_27 : dI prog_8_method_52_code 27 (.aload_n 0) 1 28 := by decide +kernel
theorem d_M_takesItem_28 : dI prog_8_method_52_code 28 (.ldc 181) 2 30 := by decide +kernel
theorem d_M_takesItem_30 : dI prog_8_method_52_code 30 (.invokevirtual 172) 3 33 := by decide +kernel
theorem d_M_takesItem_33 : dJ prog_8_method_52_code 33 (.ifCond .eq 7) 7 36 40 := by decide +kernel
theorem d_M_takesItem_36 : dI prog_8_method_52_code 36 (.iconst 3) 1 37 ∧ Int32.ofInt 3 = 3 := by decide +kernel
theorem d_M_takesItem_37 : dJ prog_8_method_52_code 37 (.goto 44) 44 40 81 := by decide +kernel
theorem d_M_takesItem_40 : dI prog_8_method_52_code 40 (.aload_n 0) 1 41 := by decide +kernel
theorem d_M_takesItem_41 : dI prog_8_method_52_code 41 (.ldc 183) 2 43 := by decide +kernel
theorem d_M_takesItem_43 : dI prog_8_method_52_code 43 (.invokevirtual 172) 3 46 := by decide +kernel
theorem d_M_takesItem_46 : dJ prog_8_method_52_code 46 (.ifCond .eq 7) 7 49 53 := by decide +kernel
theorem d_M_takesItem_49 : dI prog_8_method_52_code 49 (.iconst 4) 1 50 ∧ Int32.ofInt 4 = 4 := by decide +kernel
theorem d_M_takesItem_50 : dJ prog_8_method_52_code 50 (.goto 31) 31 53 81 := by decide +kernel
theorem d_M_takesItem_53 : dI prog_8_method_52_code 53 (.aload_n 0) 1 54 := by decide +kernel
theorem d_M_takesItem_54 : dI prog_8_method_52_code 54 (.ldc 185) 2 56 := by decide +kernel
theorem d_M_takesItem_56 : dI prog_8_method_52_code 56 (.invokevirtual 172) 3 59 := by decide +kernel
theorem d_M_takesItem_59 : dJ prog_8_method_52_code 59 (.ifCond .eq 7) 7 62 66 := by decide +kernel
theorem d_M_takesItem_62 : dI prog_8_method_52_code 62 (.iconst 5) 1 63 ∧ Int32.ofInt 5 = 5 := by decide +kernel
theorem d_M_takesItem_63 : dJ prog_8_method_52_code 63 (.goto 18) 18 66 81 := by decide +kernel
theorem d_M_takesItem_66 : dI prog_8_method_52_code 66 (.aload_n 0) 1 67 := by decide +kernel
theorem d_M_takesItem_67 : dI prog_8_method_52_code 67 (.ldc 187) 2 69 := by decide +kernel
theorem d_M_takesItem_69 : dI prog_8_method_52_code 69 (.invokevirtual 172) 3 72 := by decide +kernel
theorem d_M_takesItem_72 : dJ prog_8_method_52_code 72 (.ifCond .eq 8) 8 75 80 := by decide +kernel
theorem d_M_takesItem_75 : dI prog_8_method_52_code 75 (.bipush 6) 2 77 ∧ (Int8.ofInt 6).toInt32 = 6 := by decide +kernel
theorem d_M_takesItem_77 : dJ prog_8_method_52_code 77 (.goto 4) 4 80 81 := by decide +kernel
theorem d_M_takesItem_80 : dI prog_8_method_52_code 80 (.iconst (-1)) 1 81 ∧ Int32.ofInt (-1) = (-1) := by decide +kernel
theorem d_M_takesItem_81 : dI prog_8_method_52_code 81 (.istore_n 1) 1 82 := by decide +kernel
theorem d_M_takesItem_82 : dI prog_8_method_52_code 82 (.iload_n 1) 1 83 := by decide +kernel
theorem d_M_takesItem_83 : dI prog_8_method_52_code 83 (.iconst (-1)) 1 84 ∧ Int32.ofInt (-1) = (-1) := by decide +kernel
theorem d_M_takesItem_84 : dJ prog_8_method_52_code 84 (.if_icmp .eq 9) 9 87 93 := by decide +kernel
theorem d_M_takesItem_87 : dI prog_8_method_52_code 87 (.aload_n 0) 1 88 := by decide +kernel
theorem d_M_takesItem_88 : dI prog_8_method_52_code 88 (.iload_n 1) 1 89 := by decide +kernel
theorem d_M_takesItem_89 : dI prog_8_method_52_code 89 (.invokevirtual 189) 3 92 := by decide +kernel
theorem d_M_takesItem_92 : decode prog_8_method_52_code 92 = .ok (.ireturn, 1) := by decide +kernel
theorem d_M_takesItem_93 : dI prog_8_method_52_code 93 (.aload_n 0) 1 94 := by decide +kernel
theorem d_M_takesItem_94 : dI prog_8_method_52_code 94 (.ldc 192) 2 96 := by decide +kernel
theorem d_M_takesItem_96 : dI prog_8_method_52_code 96 (.invokevirtual 172) 3 99 := by decide +kernel
theorem d_M_takesItem_99 : dJ prog_8_method_52_code 99 (.ifCond .eq 7) 7 102 106 := by decide +kernel
theorem d_M_takesItem_102 : dI prog_8_method_52_code 102 (.iconst 0) 1 103 ∧ Int32.ofInt 0 = 0 := by decide +kernel
theorem d_M_takesItem_103 : dJ prog_8_method_52_code 103 (.goto 97) 97 106 200 := by decide +kernel
theorem d_M_takesItem_106 : dI prog_8_method_52_code 106 (.aload_n 0) 1 107 := by decide +kernel
theorem d_M_takesItem_107 : dI prog_8_method_52_code 107 (.ldc 194) 2 109 := by decide +kernel
theorem d_M_takesItem_109 : dI prog_8_method_52_code 109 (.invokevirtual 172) 3 112 := by decide +kernel
theorem d_M_takesItem_112 : dJ prog_8_method_52_code 112 (.ifCond .eq 7) 7 115 119 := by decide +kernel
theorem d_M_takesItem_115 : dI prog_8_method_52_code 115 (.iconst 1) 1 116 ∧ Int32.ofInt 1 = 1 := by decide +kernel
theorem d_M_takesItem_116 : dJ prog_8_method_52_code 116 (.goto 84) 84 119 200 := by decide +kernel
theorem d_M_takesItem_119 : dI prog_8_method_52_code 119 (.aload_n 0) 1 120 := by decide +kernel
theorem d_M_takesItem_120 : dI prog_8_method_52_code 120 (.ldc 196) 2 122 := by decide +kernel
theorem d_M_takesItem_122 : dI prog_8_method_52_code 122 (.invokevirtual 172) 3 125 := by decide +kernel
theorem d_M_takesItem_125 : dJ prog_8_method_52_code 125 (.ifCond .eq 7) 7 128 132 := by decide +kernel
theorem d_M_takesItem_128 : dI prog_8_method_52_code 128 (.iconst 2) 1 129 ∧ Int32.ofInt 2 = 2 := by decide +kernel
theorem d_M_takesItem_129 : dJ prog_8_method_52_code 129 (.goto 71) 71 132 200 := by decide +kernel
theorem d_M_takesItem_132 : dI prog_8_method_52_code 132 (.aload_n 0) 1 133 := by decide +kernel
theorem d_M_takesItem_133 : dI prog_8_method_52_code 133 (.ldc 198) 2 135 := by decide +kernel
theorem d_M_takesItem_135 : dI prog_8_method_52_code 135 (.invokevirtual 172) 3 138 := by decide +kernel
theorem d_M_takesItem_138 : dJ prog_8_method_52_code 138 (.ifCond .eq 7) 7 141 145 := by decide +kernel
theorem d_M_takesItem_141 : dI prog_8_method_52_code 141 (.iconst 3) 1 142 ∧ Int32.ofInt 3 = 3 := by decide +kernel
theorem d_M_takesItem_142 : dJ prog_8_method_52_code 142 (.goto 58) 58 145 200 := by decide +kernel
theorem d_M_takesItem_145 : dI prog_8_method_52_code 145 (.aload_n 0) 1 146 := by decide +kernel
theorem d_M_takesItem_146 : dI prog_8_method_52_code 146 (.ldc 200) 2 148 := by decide +kernel
theorem d_M_takesItem_148 : dI prog_8_method_52_code 148 (.invokevirtual 172) 3 151 := by decide +kernel
theorem d_M_takesItem_151 : dJ prog_8_method_52_code 151 (.ifCond .eq 7) 7 154 158 := by decide +kernel
theorem d_M_takesItem_154 : dI prog_8_method_52_code 154 (.iconst 4) 1 155 ∧ Int32.ofInt 4 = 4 := by decide +kernel
theorem d_M_takesItem_155 : dJ prog_8_method_52_code 155 (.goto 45) 45 158 200 := by decide +kernel
theorem d_M_takesItem_158 : dI prog_8_method_52_code 158 (.aload_n 0) 1 159 := by decide +kernel
theorem d_M_takesItem_159 : dI prog_8_method_52_code 159 (.ldc 202) 2 161 := by decide +kernel
theorem d_M_takesItem_161 : dI prog_8_method_52_code 161 (.invokevirtual 172) 3 164 := by decide +kernel
theorem d_M_takesItem_164 : dJ prog_8_method_52_code 164 (.ifCond .eq 7) 7 167 171 := by decide +kernel
theorem d_M_takesItem_167 : dI prog_8_method_52_code 167 (.iconst 5) 1 168 ∧ Int32.ofInt 5 = 5 := by decide +kernel
theorem d_M_takesItem_168 : dJ prog_8_method_52_code 168 (.goto 32) 32 171 200 := by decide +kernel
theorem d_M_takesItem_171 : dI prog_8_method_52_code 171 (.aload_n 0) 1 172 := by decide +kernel
theorem d_M_takesItem_172 : dI prog_8_method_52_code 172 (.ldc 204) 2 174 := by decide +kernel
theorem d_M_takesItem_174 : dI prog_8_method_52_code 174 (.invokevirtual 172) 3 177 := by decide +kernel
theorem d_M_takesItem_177 : dJ prog_8_method_52_code 177 (.ifCond .eq 8) 8 180 185 := by decide +kernel
theorem d_M_takesItem_180 : dI prog_8_method_52_code 180 (.bipush 6) 2 182 ∧ (Int8.ofInt 6).toInt32 = 6 := by decide +kernel
theorem d_M_takesItem_182 : dJ prog_8_method_52_code 182 (.goto 18) 18 185 200 := by decide +kernel
theorem d_M_takesItem_185 : dI prog_8_method_52_code 185 (.aload_n 0) 1 186 := by decide +kernel
theorem d_M_takesItem_186 : dI prog_8_method_52_code 186 (.ldc 206) 2 188 := by decide +kernel
theorem d_M_takesItem_188 : dI prog_8_method_52_code 188 (.invokevirtual 172) 3 191 := by decide +kernel
theorem d_M_takesItem_191 : dJ prog_8_method_52_code 191 (.ifCond .eq 8) 8 194 199 := by decide +kernel
theorem d_M_takesItem_194 : dI prog_8_method_52_code 194 (.bipush 7) 2 196 ∧ (Int8.ofInt 7).toInt32 = 7 := by decide +kernel
theorem d_M_takesItem_196 : dJ prog_8_method_52_code 196 (.goto 4) 4 199 200 := by decide +kernel
theorem d_M_takesItem_199 : dI prog_8_method_52_code 199 (.iconst (-1)) 1 200 ∧ Int32.ofInt (-1) = (-1) := by decide +kernel
theorem d_M_takesItem_200 : dI prog_8_method_52_code 200 (.istore_n 2) 1 201 := by decide +kernel
theorem d_M_takesItem_201 : dI prog_8_method_52_code 201 (.iload_n 2) 1 202 := by decide +kernel
theorem d_M_takesItem_202 : dI prog_8_method_52_code 202 (.iconst (-1)) 1 203 ∧ Int32.ofInt (-1) = (-1) := by decide +kernel
theorem d_M_takesItem_203 : dJ prog_8_method_52_code 203 (.if_icmp .eq 15) 15 206 218 := by decide +kernel
theorem d_M_takesItem_206 : dI prog_8_method_52_code 206 (.aload_n 0) 1 207 := by decide +kernel
theorem d_M_takesItem_207 : dI prog_8_method_52_code 207 (.iload_n 2) 1 208 := by decide +kernel
theorem d_M_takesItem_208 : dI prog_8_method_52_code 208 (.invokevirtual 208) 3 211 := by decide +kernel
theorem d_M_takesItem_211 : dJ prog_8_method_52_code 211 (.ifCond .eq 7) 7 214 218 := by decide +kernel
theorem d_M_takesItem_214 : dI prog_8_method_52_code 214 (.iconst 1) 1 215 ∧ Int32.ofInt 1 = 1 := by decide +kernel
theorem d_M_takesItem_215 : dJ prog_8_method_52_code 215 (.goto 4) 4 218 219 := by decide +kernel
theorem d_M_takesItem_218 : dI prog_8_method_52_code 218 (.iconst 0) 1 219 ∧ Int32.ofInt 0 = 0 := by decide +kernel
theorem d_M_takesItem_219 : decode prog_8_method_52_code 219 = .ok (.ireturn, 1) := by decide +kernel
theorem d_M_takesAll_0 : dI prog_8_method_53_code 0 (.aload_n 0) 1 1 := by decide +kernel
theorem d_M_takesAll_1 : dI prog_8_method_53_code 1 (.iconst 0) 1 2 ∧ Int32.ofInt 0 = 0 := by decide +kernel
theorem d_M_takesAll_2 : dI prog_8_method_53_code 2 (.putfield 140) 3 5 := by decide +kernel
theorem d_M_takesAll_5 : dI prog_8_method_53_code 5 (.aload_n 0) 1 6 := by decide +kernel
theorem d_M_takesAll_6 : dI prog_8_method_53_code 6 (.invokevirtual 164) 3 9 := by decide +kernel
theorem d_M_takesAll_9 : dI prog_8_method_53_code 9 (.aload_n 0) 1 10 := by decide +kernel
theorem d_M_takesAll_10 : dI prog_8_method_53_code 10 (.invokevirtual 211) 3 13 := by decide +kernel
theorem d_M_takesAll_13 : dJ prog_8_method_53_code 13 (.ifCond .ne 5) 5 16 18 := by decide +kernel
theorem d_M_takesAll_16 : dI prog_8_method_53_code 16 (.iconst 0) 1 17 ∧ Int32.ofInt 0 = 0 := by decide +kernel
theorem d_M_takesAll_17 : decode prog_8_method_53_code 17 = .ok (.ireturn, 1) := by decide +kernel
theorem d_M_takesAll_18 : dI prog_8_method_53_code 18 (.aload_n 0) 1 19 := by decide +kernel
theorem d_M_takesAll_19 : dI prog_8_method_53_code 19 (.getfield 149) 3 22 := by decide +kernel
theorem d_M_takesAll_22 : dI prog_8_method_53_code 22 (.iconst 3) 1 23 ∧ Int32.ofInt 3 = 3 := by decide +kernel
theorem d_M_takesAll_23 : dJ prog_8_method_53_code 23 (.if_icmp .ne 16) 16 26 39 := by decide +kernel
theorem d_M_takesAll_26 : dI prog_8_method_53_code 26 (.aload_n 0) 1 27 := by decide +kernel
theorem d_M_takesAll_27 : dI prog_8_method_53_code 27 (.invokevirtual 164) 3 30 := by decide +kernel
theorem d_M_takesAll_30 : dI prog_8_method_53_code 30 (.aload_n 0) 1 31 := by decide +kernel
theorem d_M_takesAll_31 : dI prog_8_method_53_code 31 (.invokevirtual 211) 3 34 := by decide +kernel
theorem d_M_takesAll_34 : dJ prog_8_method_53_code 34 (.ifCond .ne (-16)) (-16) 37 18 := by decide +kernel
theorem d_M_takesAll_37 : dI prog_8_method_53_code 37 (.iconst 0) 1 38 ∧ Int32.ofInt 0 = 0 := by decide +kernel
theorem d_M_takesAll_38 : decode prog_8_method_53_code 38 = .ok (.ireturn, 1) := by decide +kernel
theorem d_M_takesAll_39 : dI prog_8_method_53_code 39 (.aload_n 0) 1 40 := by decide +kernel
theorem d_M_takesAll_40 : dI prog_8_method_53_code 40 (.getfield 149) 3 43 := by decide +kernel
theorem d_M_takesAll_43 : dJ prog_8_method_53_code 43 (.ifCond .ne 7) 7 46 50 := by decide +kernel
theorem d_M_takesAll_46 : dI prog_8_method_53_code 46 (.iconst 1) 1 47 ∧ Int32.ofInt 1 = 1 := by decide +kernel
theorem d_M_takesAll_47 : dJ prog_8_method_53_code 47 (.goto 4) 4 50 51 := by decide +kernel
theorem d_M_takesAll_50 : dI prog_8_method_53_code 50 (.iconst 0) 1 51 ∧ Int32.ofInt 0 = 0 := by decide +kernel
theorem d_M_takesAll_51 : decode prog_8_method_53_code 51 = .ok (.ireturn, 1) := by decide +kernel
theorem d_M_text_0 : dI prog_8_method_54_code 0 (.aload_n 0) 1 1 := by decide +kernel
theorem d_M_text_1 : dI prog_8_method_54_code 1 (.invokevirtual 124) 3 4 := by decide +kernel
theorem d_M_text_4 : dI prog_8_method_54_code 4 (.aload_n 0) 1 5 := by decide +kernel
theorem d_M_text_5 : dI prog_8_method_54_code 5 (.invokevirtual 214) 3 8 := by decide +kernel
theorem d_M_text_8 : dI prog_8_method_54_code 8 (.istore_n 1) 1 9 := by decide +kernel
theorem d_M_text_9 : dI prog_8_method_54_code 9 (.aload_n 0) 1 10 := by decide +kernel
theorem d_M_text_10 : dI prog_8_method_54_code 10 (.iconst 0) 1 11 ∧ Int32.ofInt 0 = 0 := by decide +kernel
theorem d_M_text_11 : dI prog_8_method_54_code 11 (.putfield 136) 3 14 := by decide +kernel
theorem d_M_text_14 : dI prog_8_method_54_code 14 (.iload_n 1) 1 15 := by decide +kernel
theorem d_M_text_15 : dJ prog_8_method_54_code 15 (.ifCond .ne 14) 14 18 29 := by decide +kernel
theorem d_M_text_18 : dI prog_8_method_54_code 18 (.aload_n 0) 1 19 := by decide +kernel
theorem d_M_text_19 : dI prog_8_method_54_code 19 (.invokevirtual 121) 3 22 := by decide +kernel
theorem d_M_text_22 : dI prog_8_method_54_code 22 (.iconst (-1)) 1 23 ∧ Int32.ofInt (-1) = (-1) := by decide +kernel
theorem d_M_text_23 : dI prog_8_method_54_code 23 (.aload_n 0) 1 24 := by decide +kernel
theorem d_M_text_24 : dI prog_8_method_54_code 24 (.getfield 146) 3 27 := by decide +kernel
theorem d_M_text_27 : dI prog_8_method_54_code 27 .isub 1 28 := by decide +kernel
theorem d_M_text_28 : decode prog_8_method_54_code 28 = .ok (.ireturn, 1) := by decide +kernel
theorem d_M_text_29 : dI prog_8_method_54_code 29 (.aload_n 0) 1 30 := by decide +kernel
theorem d_M_text_30 : dI prog_8_method_54_code 30 (.getfield 7) 3 33 := by decide +kernel
theorem d_M_text_33 : dI prog_8_method_54_code 33 (.bipush 11) 2 35 ∧ (Int8.ofInt 11).toInt32 = 11 := by decide +kernel
theorem d_M_text_35 : dI prog_8_method_54_code 35 .iaload 1 36 := by decide +kernel
theorem d_M_text_36 : decode prog_8_method_54_code 36 = .ok (.ireturn, 1) := by decide +kernel
theorem d_M_planOf_0 : dI prog_8_method_55_code 0 (.iload_n 1) 1 1 := by decide +kernel
theorem d_M_planOf_1 : dI prog_8_method_55_code 1 (.iconst 0) 1 2 ∧ Int32.ofInt 0 = 0 := by decide +kernel
theorem d_M_planOf_2 : dI prog_8_method_55_code 2 (.aload_n 0) 1 3 := by decide +kernel
theorem d_M_planOf_3 : dI prog_8_method_55_code 3 (.getfield 7) 3 6 := by decide +kernel
theorem d_M_planOf_6 : dI prog_8_method_55_code 6 (.bipush 11) 2 8 ∧ (Int8.ofInt 11).toInt32 = 11 := by decide +kernel
theorem d_M_planOf_8 : dI prog_8_method_55_code 8 .iaload 1 9 := by decide +kernel
theorem d_M_planOf_9 : dI prog_8_method_55_code 9 (.iconst 1) 1 10 ∧ Int32.ofInt 1 = 1 := by decide +kernel
theorem d_M_planOf_10 : dI prog_8_method_55_code 10 .isub 1 11 := by decide +kernel
theorem d_M_planOf_11 : dI prog_8_method_55_code 11 (.invokestatic 45) 3 14 := by decide +kernel
theorem d_M_planOf_14 : dJ prog_8_method_55_code 14 (.ifCond .eq 15) 15 17 29 := by decide +kernel
theorem d_M_planOf_17 : dI prog_8_method_55_code 17 (.aload_n 0) 1 18 := by decide +kernel
theorem d_M_planOf_18 : dI prog_8_method_55_code 18 (.getfield 7) 3 21 := by decide +kernel
theorem d_M_planOf_21 : dI prog_8_method_55_code 21 (.bipush 72) 2 23 ∧ (Int8.ofInt 72).toInt32 = 72 := by decide +kernel
theorem d_M_planOf_23 : dI prog_8_method_55_code 23 (.iload_n 1) 1 24 := by decide +kernel
theorem d_M_planOf_24 : dI prog_8_method_55_code 24 .iadd 1 25 := by decide +kernel
theorem d_M_planOf_25 : dI prog_8_method_55_code 25 .iaload 1 26 := by decide +kernel
theorem d_M_planOf_26 : dJ prog_8_method_55_code 26 (.goto 8) 8 29 34 := by decide +kernel
theorem d_M_planOf_29 : dI prog_8_method_55_code 29 (.aload_n 0) 1 30 := by decide +kernel
theorem d_M_planOf_30 : dI prog_8_method_55_code 30 (.iconst 0) 1 31 ∧ Int32.ofInt 0 = 0 := by decide +kernel
theorem d_M_planOf_31 : dI prog_8_method_55_code 31 (.invokevirtual 61) 3 34 := by decide +kernel
theorem d_M_planOf_34 : decode prog_8_method_55_code 34 = .ok (.ireturn, 1) := by decide +kernel
theorem d_M_clear_0 : dI prog_8_method_56_code 0 (.aload_n 0) 1 1 := by decide +kernel
theorem d_M_clear_1 : dI prog_8_method_56_code 1 (.getfield 7) 3 4 := by decide +kernel
theorem d_M_clear_4 : dI prog_8_method_56_code 4 (.bipush 11) 2 6 ∧ (Int8.ofInt 11).toInt32 = 11 := by decide +kernel
theorem d_M_clear_6 : dI prog_8_method_56_code 6 .iaload 1 7 := by decide +kernel
theorem d_M_clear_7 : dI prog_8_method_56_code 7 (.istore_n 1) 1 8 := by decide +kernel
theorem d_M_clear_8 : dI prog_8_method_56_code 8 (.aload_n 0) 1 9 := by decide +kernel
theorem d_M_clear_9 : dI prog_8_method_56_code 9 (.getfield 7) 3 12 := by decide +kernel
theorem d_M_clear_12 : dI prog_8_method_56_code 12 (.bipush 11) 2 14 ∧ (Int8.ofInt 11).toInt32 = 11 := by decide +kernel
theorem d_M_clear_14 : dI prog_8_method_56_code 14 (.iconst 0) 1 15 ∧ Int32.ofInt 0 = 0 := by decide +kernel
theorem d_M_clear_15 : dI prog_8_method_56_code 15 .iastore 1 16 := by decide +kernel
theorem d_M_clear_16 : dI prog_8_method_56_code 16 (.iload_n 1) 1 17 := by decide +kernel
theorem d_M_clear_17 : decode prog_8_method_56_code 17 = .ok (.ireturn, 1) := by decide +kernel
theorem d_M_follows_0 : dI prog_8_method_57_code 0 (.iconst 0) 1 1 ∧ Int32.ofInt 0 = 0 := by decide +kernel
theorem d_M_follows_1 : dI prog_8_method_57_code 1 (.istore_n 1) 1 2 := by decide +kernel
theorem d_M_follows_2 : dI prog_8_method_57_code 2 (.iload_n 1) 1 3 := by decide +kernel
theorem d_M_follows_3 : dI prog_8_method_57_code 3 (.aload_n 0) 1 4 := by decide +kernel
theorem d_M_follows_4 : dI prog_8_method_57_code 4 (.getfield 7) 3 7 := by decide +kernel
theorem d_M_follows_7 : dI prog_8_method_57_code 7 (.bipush 11) 2 9 ∧ (Int8.ofInt 11).toInt32 = 11 := by decide +kernel
theorem d_M_follows_9 : dI prog_8_method_57_code 9 .iaload 1 10 := by decide +kernel
theorem d_M_follows_10 : dJ prog_8_method_57_code 10 (.if_icmp .ge 38) 38 13 48 := by decide +kernel
theorem d_M_follows_13 : dI prog_8_method_57_code 13 (.aload_n 0) 1 14 := by decide +kernel
theorem d_M_follows_14 : dI prog_8_method_57_code 14 (.aload_n 0) 1 15 := by decide +kernel
theorem d_M_follows_15 : dI prog_8_method_57_code 15 (.getfield 7) 3 18 := by decide +kernel
theorem d_M_follows_18 : dI prog_8_method_57_code 18 (.bipush 72) 2 20 ∧ (Int8.ofInt 72).toInt32 = 72 := by decide +kernel
theorem d_M_follows_20 : dI prog_8_method_57_code 20 (.iload_n 1) 1 21 := by decide +kernel
theorem d_M_follows_21 : dI prog_8_method_57_code 21 .iadd 1 22 := by decide +kernel
theorem d_M_follows_22 : dI prog_8_method_57_code 22 .iaload 1 23 := by decide +kernel
theorem d_M_follows_23 : dI prog_8_method_57_code 23 (.invokevirtual 114) 3 26 := by decide +kernel
theorem d_M_follows_26 : dJ prog_8_method_57_code 26 (.ifCond .eq 22) 22 29 48 := by decide +kernel
theorem d_M_follows_29 : dI prog_8_method_57_code 29 (.aload_n 0) 1 30 := by decide +kernel
theorem d_M_follows_30 : dI prog_8_method_57_code 30 (.aload_n 0) 1 31 := by decide +kernel
theorem d_M_follows_31 : dI prog_8_method_57_code 31 (.getfield 7) 3 34 := by decide +kernel
theorem d_M_follows_34 : dI prog_8_method_57_code 34 (.bipush 72) 2 36 ∧ (Int8.ofInt 72).toInt32 = 72 := by decide +kernel
theorem d_M_follows_36 : dI prog_8_method_57_code 36 (.iload_n 1) 1 37 := by decide +kernel
theorem d_M_follows_37 : dI prog_8_method_57_code 37 .iadd 1 38 := by decide +kernel
theorem d_M_follows_38 : dI prog_8_method_57_code 38 .iaload 1 39 := by decide +kernel
theorem d_M_follows_39 : dI prog_8_method_57_code 39 (.invokevirtual 117) 3 42 := by decide +kernel
theorem d_M_follows_42 : dI prog_8_method_57_code 42 (.iinc 1 1) 3 45 ∧ Int32.ofInt 1 = 1 := by decide +kernel
theorem d_M_follows_45 : dJ prog_8_method_57_code 45 (.goto (-43)) (-43) 48 2 := by decide +kernel
theorem d_M_follows_48 : dI prog_8_method_57_code 48 (.iload_n 1) 1 49 := by decide +kernel
theorem d_M_follows_49 : decode prog_8_method_57_code 49 = .ok (.ireturn, 1) := by decide +kernel
theorem d_M_follow_0 : dI prog_8_method_58_code 0 (.aload_n 0) 1 1 := by decide +kernel
theorem d_M_follow_1 : dI prog_8_method_58_code 1 (.invokevirtual 217) 3 4 := by decide +kernel
theorem d_M_follow_4 : decode prog_8_method_58_code 4 = .ok (.ireturn, 1) := by decide +kernel
theorem d_M_plans_0 : dI prog_8_method_59_code 0 (.iload_n 1) 1 1 := by decide +kernel
theorem d_M_plans_1 : dI prog_8_method_59_code 1 (.iconst 0) 1 2 ∧ Int32.ofInt 0 = 0 := by decide +kernel
theorem d_M_plans_2 : dI prog_8_method_59_code 2 (.iconst 3) 1 3 ∧ Int32.ofInt 3 = 3 := by decide +kernel
theorem d_M_plans_3 : dI prog_8_method_59_code 3 (.invokestatic 45) 3 6 := by decide +kernel
theorem d_M_plans_6 : dJ prog_8_method_59_code 6 (.ifCond .ne 9) 9 9 15 := by decide +kernel
theorem d_M_plans_9 : dI prog_8_method_59_code 9 (.aload_n 0) 1 10 := by decide +kernel
theorem d_M_plans_10 : dI prog_8_method_59_code 10 (.iconst 0) 1 11 ∧ Int32.ofInt 0 = 0 := by decide +kernel
theorem d_M_plans_11 : dI prog_8_method_59_code 11 (.invokevirtual 61) 3 14 := by decide +kernel
theorem d_M_plans_14 : decode prog_8_method_59_code 14 = .ok (.ireturn, 1) := by decide +kernel
theorem d_M_plans_15 : dI prog_8_method_59_code 15 (.aload_n 0) 1 16 := by decide +kernel
theorem d_M_plans_16 : dI prog_8_method_59_code 16 (.invokevirtual 124) 3 19 := by decide +kernel
theorem d_M_plans_19 : dI prog_8_method_59_code 19 (.aload_n 0) 1 20 := by decide +kernel
theorem d_M_plans_20 : dI prog_8_method_59_code 20 (.invokevirtual 217) 3 23 := by decide +kernel
theorem d_M_plans_23 : dI prog_8_method_59_code 23 (.istore_n 2) 1 24 := by decide +kernel
theorem d_M_plans_24 : dI prog_8_method_59_code 24 (.aload_n 0) 1 25 := by decide +kernel
theorem d_M_plans_25 : dI prog_8_method_59_code 25 (.iload_n 1) 1 26 := by decide +kernel
theorem d_M_plans_26 : dI prog_8_method_59_code 26 (.iconst 1) 1 27 ∧ Int32.ofInt 1 = 1 := by decide +kernel
theorem d_M_plans_27 : dJ prog_8_method_59_code 27 (.if_icmp .ne 7) 7 30 34 := by decide +kernel
theorem d_M_plans_30 : dI prog_8_method_59_code 30 (.iconst 0) 1 31 ∧ Int32.ofInt 0 = 0 := by decide +kernel
theorem d_M_plans_31 : dJ prog_8_method_59_code 31 (.goto 13) 13 34 44 := by decide +kernel
theorem d_M_plans_34 : dI prog_8_method_59_code 34 (.iload_n 1) 1 35 := by decide +kernel
theorem d_M_plans_35 : dI prog_8_method_59_code 35 (.iconst 2) 1 36 ∧ Int32.ofInt 2 = 2 := by decide +kernel
theorem d_M_plans_36 : dJ prog_8_method_59_code 36 (.if_icmp .ne 7) 7 39 43 := by decide +kernel
theorem d_M_plans_39 : dI prog_8_method_59_code 39 (.iconst 2) 1 40 ∧ Int32.ofInt 2 = 2 := by decide +kernel
theorem d_M_plans_40 : dJ prog_8_method_59_code 40 (.goto 4) 4 43 44 := by decide +kernel
theorem d_M_plans_43 : dI prog_8_method_59_code 43 (.iconst 1) 1 44 ∧ Int32.ofInt 1 = 1 := by decide +kernel
theorem d_M_plans_44 : dI prog_8_method_59_code 44 (.invokevirtual 127) 3 47 := by decide +kernel
theorem d_M_plans_47 : dI prog_8_method_59_code 47 (.istore_n 3) 1 48 := by decide +kernel
theorem d_M_plans_48 : dI prog_8_method_59_code 48 (.iload_n 1) 1 49 := by decide +kernel
theorem d_M_plans_49 : dJ prog_8_method_59_code 49 (.ifCond .ne 7) 7 52 56 := by decide +kernel
theorem d_M_plans_52 : dI prog_8_method_59_code 52 (.iload_n 2) 1 53 := by decide +kernel
theorem d_M_plans_53 : dJ prog_8_method_59_code 53 (.goto 4) 4 56 57 := by decide +kernel
theorem d_M_plans_56 : dI prog_8_method_59_code 56 (.iload_n 3) 1 57 := by decide +kernel
theorem d_M_plans_57 : decode prog_8_method_59_code 57 = .ok (.ireturn, 1) := by decide +kernel
theorem d_M_doesRow_0 : dI prog_8_method_60_code 0 (.iload_n 2) 1 1 := by decide +kernel
theorem d_M_doesRow_1 : dI prog_8_method_60_code 1 (.istore_n 3) 1 2 := by decide +kernel
theorem d_M_doesRow_2 : dI prog_8_method_60_code 2 (.iload_n 1) 1 3 := by decide +kernel
theorem d_M_doesRow_3 : dI prog_8_method_60_code 3 (.iconst 1) 1 4 ∧ Int32.ofInt 1 = 1 := by decide +kernel
theorem d_M_doesRow_4 : dI prog_8_method_60_code 4 .isub 1 5 := by decide +kernel
theorem d_M_doesRow_5 : dI prog_8_method_60_code 5 (.istore 4) 2 7 := by decide +kernel
theorem d_M_doesRow_7 : dI prog_8_method_60_code 7 (.iload 4) 2 9 := by decide +kernel
theorem d_M_doesRow_9 : dJ prog_8_method_60_code 9 (.ifCond .lt 25) 25 12 34 := by decide +kernel
theorem d_M_doesRow_12 : dI prog_8_method_60_code 12 (.aload_n 0) 1 13 := by decide +kernel
theorem d_M_doesRow_13 : dI prog_8_method_60_code 13 (.getfield 25) 3 16 := by decide +kernel
theorem d_M_doesRow_16 : dI prog_8_method_60_code 16 (.iload 4) 2 18 := by decide +kernel
theorem d_M_doesRow_18 : dI prog_8_method_60_code 18 (.iload_n 3) 1 19 := by decide +kernel
theorem d_M_doesRow_19 : dI prog_8_method_60_code 19 (.bipush 8) 2 21 ∧ (Int8.ofInt 8).toInt32 = 8 := by decide +kernel
theorem d_M_doesRow_21 : dI prog_8_method_60_code 21 .irem 1 22 := by decide +kernel
theorem d_M_doesRow_22 : dI prog_8_method_60_code 22 .iastore 1 23 := by decide +kernel
theorem d_M_doesRow_23 : dI prog_8_method_60_code 23 (.iload_n 3) 1 24 := by decide +kernel
theorem d_M_doesRow_24 : dI prog_8_method_60_code 24 (.bipush 8) 2 26 ∧ (Int8.ofInt 8).toInt32 = 8 := by decide +kernel
theorem d_M_doesRow_26 : dI prog_8_method_60_code 26 .idiv 1 27 := by decide +kernel
theorem d_M_doesRow_27 : dI prog_8_method_60_code 27 (.istore_n 3) 1 28 := by decide +kernel
theorem d_M_doesRow_28 : dI prog_8_method_60_code 28 (.iinc 4 (-1)) 3 31 ∧ Int32.ofInt (-1) = (-1) := by decide +kernel
theorem d_M_doesRow_31 : dJ prog_8_method_60_code 31 (.goto (-24)) (-24) 34 7 := by decide +kernel
theorem d_M_doesRow_34 : dI prog_8_method_60_code 34 (.iconst 1) 1 35 ∧ Int32.ofInt 1 = 1 := by decide +kernel
theorem d_M_doesRow_35 : dI prog_8_method_60_code 35 (.istore 4) 2 37 := by decide +kernel
theorem d_M_doesRow_37 : dI prog_8_method_60_code 37 (.iconst 0) 1 38 ∧ Int32.ofInt 0 = 0 := by decide +kernel
theorem d_M_doesRow_38 : dI prog_8_method_60_code 38 (.istore 5) 2 40 := by decide +kernel
theorem d_M_doesRow_40 : dI prog_8_method_60_code 40 (.iload 5) 2 42 := by decide +kernel
theorem d_M_doesRow_42 : dI prog_8_method_60_code 42 (.iload_n 1) 1 43 := by decide +kernel
theorem d_M_doesRow_43 : dJ prog_8_method_60_code 43 (.if_icmp .ge 43) 43 46 86 := by decide +kernel
theorem d_M_doesRow_46 : dI prog_8_method_60_code 46 (.iload 4) 2 48 := by decide +kernel
theorem d_M_doesRow_48 : dJ prog_8_method_60_code 48 (.ifCond .eq 38) 38 51 86 := by decide +kernel
theorem d_M_doesRow_51 : dI prog_8_method_60_code 51 (.aload_n 0) 1 52 := by decide +kernel
theorem d_M_doesRow_52 : dI prog_8_method_60_code 52 (.aload_n 0) 1 53 := by decide +kernel
theorem d_M_doesRow_53 : dI prog_8_method_60_code 53 (.getfield 25) 3 56 := by decide +kernel
theorem d_M_doesRow_56 : dI prog_8_method_60_code 56 (.iload 5) 2 58 := by decide +kernel
theorem d_M_doesRow_58 : dI prog_8_method_60_code 58 .iaload 1 59 := by decide +kernel
theorem d_M_doesRow_59 : dI prog_8_method_60_code 59 (.invokevirtual 114) 3 62 := by decide +kernel
theorem d_M_doesRow_62 : dI prog_8_method_60_code 62 (.istore 4) 2 64 := by decide +kernel
theorem d_M_doesRow_64 : dI prog_8_method_60_code 64 (.iload 4) 2 66 := by decide +kernel
theorem d_M_doesRow_66 : dJ prog_8_method_60_code 66 (.ifCond .eq 14) 14 69 80 := by decide +kernel
theorem d_M_doesRow_69 : dI prog_8_method_60_code 69 (.aload_n 0) 1 70 := by decide +kernel
theorem d_M_doesRow_70 : dI prog_8_method_60_code 70 (.aload_n 0) 1 71 := by decide +kernel
theorem d_M_doesRow_71 : dI prog_8_method_60_code 71 (.getfield 25) 3 74 := by decide +kernel
theorem d_M_doesRow_74 : dI prog_8_method_60_code 74 (.iload 5) 2 76 := by decide +kernel
theorem d_M_doesRow_76 : dI prog_8_method_60_code 76 .iaload 1 77 := by decide +kernel
theorem d_M_doesRow_77 : dI prog_8_method_60_code 77 (.invokevirtual 117) 3 80 := by decide +kernel
theorem d_M_doesRow_80 : dI prog_8_method_60_code 80 (.iinc 5 1) 3 83 ∧ Int32.ofInt 1 = 1 := by decide +kernel
theorem d_M_doesRow_83 : dJ prog_8_method_60_code 83 (.goto (-43)) (-43) 86 40 := by decide +kernel
theorem d_M_doesRow_86 : dI prog_8_method_60_code 86 (.iload 4) 2 88 := by decide +kernel
theorem d_M_doesRow_88 : decode prog_8_method_60_code 88 = .ok (.ireturn, 1) := by decide +kernel
theorem d_M_digits_0 : dI prog_8_method_61_code 0 (.iload_n 0) 1 1 := by decide +kernel
theorem d_M_digits_1 : dI prog_8_method_61_code 1 (.iconst 1) 1 2 ∧ Int32.ofInt 1 = 1 := by decide +kernel
theorem d_M_digits_2 : dJ prog_8_method_61_code 2 (.if_icmp .ne 7) 7 5 9 := by decide +kernel
theorem d_M_digits_5 : dI prog_8_method_61_code 5 (.iload_n 1) 1 6 := by decide +kernel
theorem d_M_digits_6 : dJ prog_8_method_61_code 6 (.goto 46) 46 9 52 := by decide +kernel
theorem d_M_digits_9 : dI prog_8_method_61_code 9 (.iload_n 0) 1 10 := by decide +kernel
theorem d_M_digits_10 : dI prog_8_method_61_code 10 (.iconst 2) 1 11 ∧ Int32.ofInt 2 = 2 := by decide +kernel
theorem d_M_digits_11 : dJ prog_8_method_61_code 11 (.if_icmp .ne 18) 18 14 29 := by decide +kernel
theorem d_M_digits_14 : dI prog_8_method_61_code 14 (.iload_n 1) 1 15 := by decide +kernel
theorem d_M_digits_15 : dI prog_8_method_61_code 15 (.bipush 8) 2 17 ∧ (Int8.ofInt 8).toInt32 = 8 := by decide +kernel
theorem d_M_digits_17 : dI prog_8_method_61_code 17 .idiv 1 18 := by decide +kernel
theorem d_M_digits_18 : dI prog_8_method_61_code 18 (.bipush 10) 2 20 ∧ (Int8.ofInt 10).toInt32 = 10 := by decide +kernel
theorem d_M_digits_20 : dI prog_8_method_61_code 20 .imul 1 21 := by decide +kernel
theorem d_M_digits_21 : dI prog_8_method_61_code 21 (.iload_n 1) 1 22 := by decide +kernel
theorem d_M_digits_22 : dI prog_8_method_61_code 22 (.bipush 8) 2 24 ∧ (Int8.ofInt 8).toInt32 = 8 := by decide +kernel
theorem d_M_digits_24 : dI prog_8_method_61_code 24 .irem 1 25 := by decide +kernel
theorem d_M_digits_25 : dI prog_8_method_61_code 25 .iadd 1 26 := by decide +kernel
theorem d_M_digits_26 : dJ prog_8_method_61_code 26 (.goto 26) 26 29 52 := by decide +kernel
theorem d_M_digits_29 : dI prog_8_method_61_code 29 (.iload_n 1) 1 30 := by decide +kernel
theorem d_M_digits_30 : dI prog_8_method_61_code 30 (.bipush 64) 2 32 ∧ (Int8.ofInt 64).toInt32 = 64 := by decide +kernel
theorem d_M_digits_32 : dI prog_8_method_61_code 32 .idiv 1 33 := by decide +kernel
theorem d_M_digits_33 : dI prog_8_method_61_code 33 (.bipush 100) 2 35 ∧ (Int8.ofInt 100).toInt32 = 100 := by decide +kernel
theorem d_M_digits_35 : dI prog_8_method_61_code 35 .imul 1 36 := by decide +kernel
theorem d_M_digits_36 : dI prog_8_method_61_code 36 (.iload_n 1) 1 37 := by decide +kernel
theorem d_M_digits_37 : dI prog_8_method_61_code 37 (.bipush 8) 2 39 ∧ (Int8.ofInt 8).toInt32 = 8 := by decide +kernel
theorem d_M_digits_39 : dI prog_8_method_61_code 39 .idiv 1 40 := by decide +kernel
theorem d_M_digits_40 : dI prog_8_method_61_code 40 (.bipush 8) 2 42 ∧ (Int8.ofInt 8).toInt32 = 8 := by decide +kernel
theorem d_M_digits_42 : dI prog_8_method_61_code 42 .irem 1 43 := by decide +kernel
theorem d_M_digits_43 : dI prog_8_method_61_code 43 (.bipush 10) 2 45 ∧ (Int8.ofInt 10).toInt32 = 10 := by decide +kernel
theorem d_M_digits_45 : dI prog_8_method_61_code 45 .imul 1 46 := by decide +kernel
theorem d_M_digits_46 : dI prog_8_method_61_code 46 .iadd 1 47 := by decide +kernel
theorem d_M_digits_47 : dI prog_8_method_61_code 47 (.iload_n 1) 1 48 := by decide +kernel
theorem d_M_digits_48 : dI prog_8_method_61_code 48 (.bipush 8) 2 50 ∧ (Int8.ofInt 8).toInt32 = 8 := by decide +kernel
theorem d_M_digits_50 : dI prog_8_method_61_code 50 .irem 1 51 := by decide +kernel
theorem d_M_digits_51 : dI prog_8_method_61_code 51 .iadd 1 52 := by decide +kernel
theorem d_M_digits_52 : decode prog_8_method_61_code 52 = .ok (.ireturn, 1) := by decide +kernel
theorem d_M_best_0 : dI prog_8_method_62_code 0 (.iload_n 1) 1 1 := by decide +kernel
theorem d_M_best_1 : dI prog_8_method_62_code 1 (.iconst 1) 1 2 ∧ Int32.ofInt 1 = 1 := by decide +kernel
theorem d_M_best_2 : dI prog_8_method_62_code 2 (.iconst 3) 1 3 ∧ Int32.ofInt 3 = 3 := by decide +kernel
theorem d_M_best_3 : dI prog_8_method_62_code 3 (.invokestatic 45) 3 6 := by decide +kernel
theorem d_M_best_6 : dJ prog_8_method_62_code 6 (.ifCond .eq 12) 12 9 18 := by decide +kernel
theorem d_M_best_9 : dI prog_8_method_62_code 9 (.iload_n 2) 1 10 := by decide +kernel
theorem d_M_best_10 : dI prog_8_method_62_code 10 (.iconst 0) 1 11 ∧ Int32.ofInt 0 = 0 := by decide +kernel
theorem d_M_best_11 : dI prog_8_method_62_code 11 (.iconst 2) 1 12 ∧ Int32.ofInt 2 = 2 := by decide +kernel
theorem d_M_best_12 : dI prog_8_method_62_code 12 (.invokestatic 45) 3 15 := by decide +kernel
theorem d_M_best_15 : dJ prog_8_method_62_code 15 (.ifCond .ne 9) 9 18 24 := by decide +kernel
theorem d_M_best_18 : dI prog_8_method_62_code 18 (.aload_n 0) 1 19 := by decide +kernel
theorem d_M_best_19 : dI prog_8_method_62_code 19 (.iconst 0) 1 20 ∧ Int32.ofInt 0 = 0 := by decide +kernel
theorem d_M_best_20 : dI prog_8_method_62_code 20 (.invokevirtual 61) 3 23 := by decide +kernel
theorem d_M_best_23 : decode prog_8_method_62_code 23 = .ok (.ireturn, 1) := by decide +kernel
theorem d_M_best_24 : dI prog_8_method_62_code 24 (.iload_n 1) 1 25 := by decide +kernel
theorem d_M_best_25 : dI prog_8_method_62_code 25 (.iconst 1) 1 26 ∧ Int32.ofInt 1 = 1 := by decide +kernel
theorem d_M_best_26 : dJ prog_8_method_62_code 26 (.if_icmp .ne 8) 8 29 34 := by decide +kernel
theorem d_M_best_29 : dI prog_8_method_62_code 29 (.bipush 8) 2 31 ∧ (Int8.ofInt 8).toInt32 = 8 := by decide +kernel
theorem d_M_best_31 : dJ prog_8_method_62_code 31 (.goto 16) 16 34 47 := by decide +kernel
theorem d_M_best_34 : dI prog_8_method_62_code 34 (.iload_n 1) 1 35 := by decide +kernel
theorem d_M_best_35 : dI prog_8_method_62_code 35 (.iconst 2) 1 36 ∧ Int32.ofInt 2 = 2 := by decide +kernel
theorem d_M_best_36 : dJ prog_8_method_62_code 36 (.if_icmp .ne 8) 8 39 44 := by decide +kernel
theorem d_M_best_39 : dI prog_8_method_62_code 39 (.bipush 64) 2 41 ∧ (Int8.ofInt 64).toInt32 = 64 := by decide +kernel
theorem d_M_best_41 : dJ prog_8_method_62_code 41 (.goto 6) 6 44 47 := by decide +kernel
theorem d_M_best_44 : dI prog_8_method_62_code 44 (.sipush 512) 3 47 ∧ (Int16.ofInt 512).toInt32 = 512 := by decide +kernel
theorem d_M_best_47 : dI prog_8_method_62_code 47 (.istore_n 3) 1 48 := by decide +kernel
theorem d_M_best_48 : dI prog_8_method_62_code 48 (.iconst (-1)) 1 49 ∧ Int32.ofInt (-1) = (-1) := by decide +kernel
theorem d_M_best_49 : dI prog_8_method_62_code 49 (.istore 4) 2 51 := by decide +kernel
theorem d_M_best_51 : dI prog_8_method_62_code 51 (.iconst 0) 1 52 ∧ Int32.ofInt 0 = 0 := by decide +kernel
theorem d_M_best_52 : dI prog_8_method_62_code 52 (.istore 5) 2 54 := by decide +kernel
theorem d_M_best_54 : dI prog_8_method_62_code 54 (.iconst 0) 1 55 ∧ Int32.ofInt 0 = 0 := by decide +kernel
theorem d_M_best_55 : dI prog_8_method_62_code 55 (.istore 6) 2 57 := by decide +kernel
theorem d_M_best_57 : dI prog_8_method_62_code 57 (.iconst 0) 1 58 ∧ Int32.ofInt 0 = 0 := by decide +kernel
theorem d_M_best_58 : dI prog_8_method_62_code 58 (.istore 7) 2 60 := by decide +kernel
theorem d_M_best_60 : dI prog_8_method_62_code 60 (.iload 7) 2 62 := by decide +kernel
theorem d_M_best_62 : dI prog_8_method_62_code 62 (.iload_n 3) 1 63 := by decide +kernel
theorem d_M_best_63 : dJ prog_8_method_62_code 63 (.if_icmp .ge 101) 101 66 164 := by decide +kernel
theorem d_M_best_66 : dI prog_8_method_62_code 66 (.aload_n 0) 1 67 := by decide +kernel
theorem d_M_best_67 : dI prog_8_method_62_code 67 (.invokevirtual 124) 3 70 := by decide +kernel
theorem d_M_best_70 : dI prog_8_method_62_code 70 (.aload_n 0) 1 71 := by decide +kernel
theorem d_M_best_71 : dI prog_8_method_62_code 71 (.iload_n 1) 1 72 := by decide +kernel
theorem d_M_best_72 : dI prog_8_method_62_code 72 (.iload 7) 2 74 := by decide +kernel
theorem d_M_best_74 : dI prog_8_method_62_code 74 (.invokevirtual 220) 3 77 := by decide +kernel
theorem d_M_best_77 : dI prog_8_method_62_code 77 (.istore 8) 2 79 := by decide +kernel
theorem d_M_best_79 : dI prog_8_method_62_code 79 (.aload_n 0) 1 80 := by decide +kernel
theorem d_M_best_80 : dI prog_8_method_62_code 80 (.getfield 7) 3 83 := by decide +kernel
theorem d_M_best_83 : dI prog_8_method_62_code 83 (.iconst 0) 1 84 ∧ Int32.ofInt 0 = 0 := by decide +kernel
theorem d_M_best_84 : dI prog_8_method_62_code 84 .iaload 1 85 := by decide +kernel
theorem d_M_best_85 : dI prog_8_method_62_code 85 (.aload_n 0) 1 86 := by decide +kernel
theorem d_M_best_86 : dI prog_8_method_62_code 86 (.getfield 16) 3 89 := by decide +kernel
theorem d_M_best_89 : dI prog_8_method_62_code 89 (.iconst 0) 1 90 ∧ Int32.ofInt 0 = 0 := by decide +kernel
theorem d_M_best_90 : dI prog_8_method_62_code 90 .iaload 1 91 := by decide +kernel
theorem d_M_best_91 : dI prog_8_method_62_code 91 .isub 1 92 := by decide +kernel
theorem d_M_best_92 : dI prog_8_method_62_code 92 (.istore 9) 2 94 := by decide +kernel
theorem d_M_best_94 : dI prog_8_method_62_code 94 (.aload_n 0) 1 95 := by decide +kernel
theorem d_M_best_95 : dI prog_8_method_62_code 95 (.getfield 7) 3 98 := by decide +kernel
theorem d_M_best_98 : dI prog_8_method_62_code 98 (.bipush 8) 2 100 ∧ (Int8.ofInt 8).toInt32 = 8 := by decide +kernel
theorem d_M_best_100 : dI prog_8_method_62_code 100 .iaload 1 101 := by decide +kernel
theorem d_M_best_101 : dI prog_8_method_62_code 101 (.aload_n 0) 1 102 := by decide +kernel
theorem d_M_best_102 : dI prog_8_method_62_code 102 (.getfield 16) 3 105 := by decide +kernel
theorem d_M_best_105 : dI prog_8_method_62_code 105 (.bipush 8) 2 107 ∧ (Int8.ofInt 8).toInt32 = 8 := by decide +kernel
theorem d_M_best_107 : dI prog_8_method_62_code 107 .iaload 1 108 := by decide +kernel
theorem d_M_best_108 : dI prog_8_method_62_code 108 .isub 1 109 := by decide +kernel
theorem d_M_best_109 : dI prog_8_method_62_code 109 (.istore 10) 2 111 := by decide +kernel
theorem d_M_best_111 : dI prog_8_method_62_code 111 (.aload_n 0) 1 112 := by decide +kernel
theorem d_M_best_112 : dI prog_8_method_62_code 112 (.invokevirtual 121) 3 115 := by decide +kernel
theorem d_M_best_115 : dI prog_8_method_62_code 115 (.iload 8) 2 117 := by decide +kernel
theorem d_M_best_117 : dJ prog_8_method_62_code 117 (.ifCond .eq 41) 41 120 158 := by decide +kernel
theorem d_M_best_120 : dI prog_8_method_62_code 120 (.iload 4) 2 122 := by decide +kernel
theorem d_M_best_122 : dJ prog_8_method_62_code 122 (.ifCond .lt 24) 24 125 146 := by decide +kernel
theorem d_M_best_125 : dI prog_8_method_62_code 125 (.iload 9) 2 127 := by decide +kernel
theorem d_M_best_127 : dI prog_8_method_62_code 127 (.iload 5) 2 129 := by decide +kernel
theorem d_M_best_129 : dJ prog_8_method_62_code 129 (.if_icmp .gt 17) 17 132 146 := by decide +kernel
theorem d_M_best_132 : dI prog_8_method_62_code 132 (.iload 9) 2 134 := by decide +kernel
theorem d_M_best_134 : dI prog_8_method_62_code 134 (.iload 5) 2 136 := by decide +kernel
theorem d_M_best_136 : dJ prog_8_method_62_code 136 (.if_icmp .ne 22) 22 139 158 := by decide +kernel
theorem d_M_best_139 : dI prog_8_method_62_code 139 (.iload 10) 2 141 := by decide +kernel
theorem d_M_best_141 : dI prog_8_method_62_code 141 (.iload 6) 2 143 := by decide +kernel
theorem d_M_best_143 : dJ prog_8_method_62_code 143 (.if_icmp .ge 15) 15 146 158 := by decide +kernel
theorem d_M_best_146 : dI prog_8_method_62_code 146 (.iload 7) 2 148 := by decide +kernel
theorem d_M_best_148 : dI prog_8_method_62_code 148 (.istore 4) 2 150 := by decide +kernel
theorem d_M_best_150 : dI prog_8_method_62_code 150 (.iload 9) 2 152 := by decide +kernel
theorem d_M_best_152 : dI prog_8_method_62_code 152 (.istore 5) 2 154 := by decide +kernel
theorem d_M_best_154 : dI prog_8_method_62_code 154 (.iload 10) 2 156 := by decide +kernel
theorem d_M_best_156 : dI prog_8_method_62_code 156 (.istore 6) 2 158 := by decide +kernel
theorem d_M_best_158 : dI prog_8_method_62_code 158 (.iinc 7 1) 3 161 ∧ Int32.ofInt 1 = 1 := by decide +kernel
theorem d_M_best_161 : dJ prog_8_method_62_code 161 (.goto (-101)) (-101) 164 60 := by decide +kernel
theorem d_M_best_164 : dI prog_8_method_62_code 164 (.iload 4) 2 166 := by decide +kernel
theorem d_M_best_166 : dJ prog_8_method_62_code 166 (.ifCond .ge 9) 9 169 175 := by decide +kernel
theorem d_M_best_169 : dI prog_8_method_62_code 169 (.aload_n 0) 1 170 := by decide +kernel
theorem d_M_best_170 : dI prog_8_method_62_code 170 (.iconst 3) 1 171 ∧ Int32.ofInt 3 = 3 := by decide +kernel
theorem d_M_best_171 : dI prog_8_method_62_code 171 (.invokevirtual 61) 3 174 := by decide +kernel
theorem d_M_best_174 : decode prog_8_method_62_code 174 = .ok (.ireturn, 1) := by decide +kernel
theorem d_M_best_175 : dI prog_8_method_62_code 175 (.iload_n 2) 1 176 := by decide +kernel
theorem d_M_best_176 : dJ prog_8_method_62_code 176 (.ifCond .ne 8) 8 179 184 := by decide +kernel
theorem d_M_best_179 : dI prog_8_method_62_code 179 (.iload 5) 2 181 := by decide +kernel
theorem d_M_best_181 : dJ prog_8_method_62_code 181 (.goto 19) 19 184 200 := by decide +kernel
theorem d_M_best_184 : dI prog_8_method_62_code 184 (.iload_n 2) 1 185 := by decide +kernel
theorem d_M_best_185 : dI prog_8_method_62_code 185 (.iconst 1) 1 186 ∧ Int32.ofInt 1 = 1 := by decide +kernel
theorem d_M_best_186 : dJ prog_8_method_62_code 186 (.if_icmp .ne 8) 8 189 194 := by decide +kernel
theorem d_M_best_189 : dI prog_8_method_62_code 189 (.iload 6) 2 191 := by decide +kernel
theorem d_M_best_191 : dJ prog_8_method_62_code 191 (.goto 9) 9 194 200 := by decide +kernel
theorem d_M_best_194 : dI prog_8_method_62_code 194 (.iload_n 1) 1 195 := by decide +kernel
theorem d_M_best_195 : dI prog_8_method_62_code 195 (.iload 4) 2 197 := by decide +kernel
theorem d_M_best_197 : dI prog_8_method_62_code 197 (.invokestatic 223) 3 200 := by decide +kernel
theorem d_M_best_200 : decode prog_8_method_62_code 200 = .ok (.ireturn, 1) := by decide +kernel
theorem d_M_airFor_0 : dI prog_8_method_63_code 0 (.iload_n 1) 1 1 := by decide +kernel
theorem d_M_airFor_1 : dI prog_8_method_63_code 1 (.invokestatic 49) 3 4 := by decide +kernel
theorem d_M_airFor_4 : dJ prog_8_method_63_code 4 (.ifCond .ne 9) 9 7 13 := by decide +kernel
theorem d_M_airFor_7 : dI prog_8_method_63_code 7 (.aload_n 0) 1 8 := by decide +kernel
theorem d_M_airFor_8 : dI prog_8_method_63_code 8 (.iconst 0) 1 9 ∧ Int32.ofInt 0 = 0 := by decide +kernel
theorem d_M_airFor_9 : dI prog_8_method_63_code 9 (.invokevirtual 61) 3 12 := by decide +kernel
theorem d_M_airFor_12 : decode prog_8_method_63_code 12 = .ok (.ireturn, 1) := by decide +kernel
theorem d_M_airFor_13 : dI prog_8_method_63_code 13 (.iconst 0) 1 14 ∧ Int32.ofInt 0 = 0 := by decide +kernel
theorem d_M_airFor_14 : dI prog_8_method_63_code 14 (.istore_n 2) 1 15 := by decide +kernel
theorem d_M_airFor_15 : dI prog_8_method_63_code 15 (.iload_n 2) 1 16 := by decide +kernel
theorem d_M_airFor_16 : dI prog_8_method_63_code 16 (.bipush 9) 2 18 ∧ (Int8.ofInt 9).toInt32 = 9 := by decide +kernel
theorem d_M_airFor_18 : dJ prog_8_method_63_code 18 (.if_icmp .gt 32) 32 21 50 := by decide +kernel
theorem d_M_airFor_21 : dI prog_8_method_63_code 21 (.aload_n 0) 1 22 := by decide +kernel
theorem d_M_airFor_22 : dI prog_8_method_63_code 22 (.aload_n 0) 1 23 := by decide +kernel
theorem d_M_airFor_23 : dI prog_8_method_63_code 23 (.getfield 7) 3 26 := by decide +kernel
theorem d_M_airFor_26 : dI prog_8_method_63_code 26 (.bipush 12) 2 28 ∧ (Int8.ofInt 12).toInt32 = 12 := by decide +kernel
theorem d_M_airFor_28 : dI prog_8_method_63_code 28 (.iload_n 1) 1 29 := by decide +kernel
theorem d_M_airFor_29 : dI prog_8_method_63_code 29 .iadd 1 30 := by decide +kernel
theorem d_M_airFor_30 : dI prog_8_method_63_code 30 .iaload 1 31 := by decide +kernel
theorem d_M_airFor_31 : dI prog_8_method_63_code 31 (.iload_n 2) 1 32 := by decide +kernel
theorem d_M_airFor_32 : dI prog_8_method_63_code 32 (.invokevirtual 57) 3 35 := by decide +kernel
theorem d_M_airFor_35 : dI prog_8_method_63_code 35 (.aload_n 0) 1 36 := by decide +kernel
theorem d_M_airFor_36 : dI prog_8_method_63_code 36 (.invokevirtual 78) 3 39 := by decide +kernel
theorem d_M_airFor_39 : dJ prog_8_method_63_code 39 (.if_icmp .lt 5) 5 42 44 := by decide +kernel
theorem d_M_airFor_42 : dI prog_8_method_63_code 42 (.iload_n 2) 1 43 := by decide +kernel
theorem d_M_airFor_43 : decode prog_8_method_63_code 43 = .ok (.ireturn, 1) := by decide +kernel
theorem d_M_airFor_44 : dI prog_8_method_63_code 44 (.iinc 2 1) 3 47 ∧ Int32.ofInt 1 = 1 := by decide +kernel
theorem d_M_airFor_47 : dJ prog_8_method_63_code 47 (.goto (-32)) (-32) 50 15 := by decide +kernel
theorem d_M_airFor_50 : dI prog_8_method_63_code 50 (.aload_n 0) 1 51 := by decide +kernel
theorem d_M_airFor_51 : dI prog_8_method_63_code 51 (.iconst 3) 1 52 ∧ Int32.ofInt 3 = 3 := by decide +kernel
theorem d_M_airFor_52 : dI prog_8_method_63_code 52 (.invokevirtual 61) 3 55 := by decide +kernel
theorem d_M_airFor_55 : decode prog_8_method_63_code 55 = .ok (.ireturn, 1) := by decide +kernel
theorem d_M_sacksFor_0 : dI prog_8_method_64_code 0 (.iload_n 1) 1 1 := by decide +kernel
theorem d_M_sacksFor_1 : dI prog_8_method_64_code 1 (.invokestatic 49) 3 4 := by decide +kernel
theorem d_M_sacksFor_4 : dJ prog_8_method_64_code 4 (.ifCond .ne 9) 9 7 13 := by decide +kernel
theorem d_M_sacksFor_7 : dI prog_8_method_64_code 7 (.aload_n 0) 1 8 := by decide +kernel
theorem d_M_sacksFor_8 : dI prog_8_method_64_code 8 (.iconst 0) 1 9 ∧ Int32.ofInt 0 = 0 := by decide +kernel
theorem d_M_sacksFor_9 : dI prog_8_method_64_code 9 (.invokevirtual 61) 3 12 := by decide +kernel
theorem d_M_sacksFor_12 : decode prog_8_method_64_code 12 = .ok (.ireturn, 1) := by decide +kernel
theorem d_M_sacksFor_13 : dI prog_8_method_64_code 13 (.bipush 99) 2 15 ∧ (Int8.ofInt 99).toInt32 = 99 := by decide +kernel
theorem d_M_sacksFor_15 : dI prog_8_method_64_code 15 (.istore_n 2) 1 16 := by decide +kernel
theorem d_M_sacksFor_16 : dI prog_8_method_64_code 16 (.iload_n 2) 1 17 := by decide +kernel
theorem d_M_sacksFor_17 : dJ prog_8_method_64_code 17 (.ifCond .lt 25) 25 20 42 := by decide +kernel
theorem d_M_sacksFor_20 : dI prog_8_method_64_code 20 (.aload_n 0) 1 21 := by decide +kernel
theorem d_M_sacksFor_21 : dI prog_8_method_64_code 21 (.iload_n 1) 1 22 := by decide +kernel
theorem d_M_sacksFor_22 : dI prog_8_method_64_code 22 (.invokevirtual 65) 3 25 := by decide +kernel
theorem d_M_sacksFor_25 : dI prog_8_method_64_code 25 (.bipush 20) 2 27 ∧ (Int8.ofInt 20).toInt32 = 20 := by decide +kernel
theorem d_M_sacksFor_27 : dI prog_8_method_64_code 27 (.iload_n 2) 1 28 := by decide +kernel
theorem d_M_sacksFor_28 : dI prog_8_method_64_code 28 (.iconst 2) 1 29 ∧ Int32.ofInt 2 = 2 := by decide +kernel
theorem d_M_sacksFor_29 : dI prog_8_method_64_code 29 .idiv 1 30 := by decide +kernel
theorem d_M_sacksFor_30 : dI prog_8_method_64_code 30 .iadd 1 31 := by decide +kernel
theorem d_M_sacksFor_31 : dJ prog_8_method_64_code 31 (.if_icmp .lt 5) 5 34 36 := by decide +kernel
theorem d_M_sacksFor_34 : dI prog_8_method_64_code 34 (.iload_n 2) 1 35 := by decide +kernel
theorem d_M_sacksFor_35 : decode prog_8_method_64_code 35 = .ok (.ireturn, 1) := by decide +kernel
theorem d_M_sacksFor_36 : dI prog_8_method_64_code 36 (.iinc 2 (-1)) 3 39 ∧ Int32.ofInt (-1) = (-1) := by decide +kernel
theorem d_M_sacksFor_39 : dJ prog_8_method_64_code 39 (.goto (-23)) (-23) 42 16 := by decide +kernel
theorem d_M_sacksFor_42 : dI prog_8_method_64_code 42 (.aload_n 0) 1 43 := by decide +kernel
theorem d_M_sacksFor_43 : dI prog_8_method_64_code 43 (.iconst 3) 1 44 ∧ Int32.ofInt 3 = 3 := by decide +kernel
theorem d_M_sacksFor_44 : dI prog_8_method_64_code 44 (.invokevirtual 61) 3 47 := by decide +kernel
theorem d_M_sacksFor_47 : decode prog_8_method_64_code 47 = .ok (.ireturn, 1) := by decide +kernel
theorem d_M_waterFor_0 : dI prog_8_method_65_code 0 (.aload_n 0) 1 1 := by decide +kernel
theorem d_M_waterFor_1 : dI prog_8_method_65_code 1 (.invokevirtual 124) 3 4 := by decide +kernel
theorem d_M_waterFor_4 : dI prog_8_method_65_code 4 (.iconst 0) 1 5 ∧ Int32.ofInt 0 = 0 := by decide +kernel
theorem d_M_waterFor_5 : dI prog_8_method_65_code 5 (.istore_n 1) 1 6 := by decide +kernel
theorem d_M_waterFor_6 : dI prog_8_method_65_code 6 (.iconst 0) 1 7 ∧ Int32.ofInt 0 = 0 := by decide +kernel
theorem d_M_waterFor_7 : dI prog_8_method_65_code 7 (.istore_n 2) 1 8 := by decide +kernel
theorem d_M_waterFor_8 : dI prog_8_method_65_code 8 (.iconst 1) 1 9 ∧ Int32.ofInt 1 = 1 := by decide +kernel
theorem d_M_waterFor_9 : dI prog_8_method_65_code 9 (.istore_n 3) 1 10 := by decide +kernel
theorem d_M_waterFor_10 : dI prog_8_method_65_code 10 (.iload_n 1) 1 11 := by decide +kernel
theorem d_M_waterFor_11 : dI prog_8_method_65_code 11 (.aload_n 0) 1 12 := by decide +kernel
theorem d_M_waterFor_12 : dI prog_8_method_65_code 12 (.getfield 7) 3 15 := by decide +kernel
theorem d_M_waterFor_15 : dI prog_8_method_65_code 15 (.bipush 11) 2 17 ∧ (Int8.ofInt 11).toInt32 = 11 := by decide +kernel
theorem d_M_waterFor_17 : dI prog_8_method_65_code 17 .iaload 1 18 := by decide +kernel
theorem d_M_waterFor_18 : dJ prog_8_method_65_code 18 (.if_icmp .ge 69) 69 21 87 := by decide +kernel
theorem d_M_waterFor_21 : dI prog_8_method_65_code 21 (.iload_n 3) 1 22 := by decide +kernel
theorem d_M_waterFor_22 : dJ prog_8_method_65_code 22 (.ifCond .eq 65) 65 25 87 := by decide +kernel
theorem d_M_waterFor_25 : dI prog_8_method_65_code 25 (.aload_n 0) 1 26 := by decide +kernel
theorem d_M_waterFor_26 : dI prog_8_method_65_code 26 (.getfield 7) 3 29 := by decide +kernel
theorem d_M_waterFor_29 : dI prog_8_method_65_code 29 (.bipush 6) 2 31 ∧ (Int8.ofInt 6).toInt32 = 6 := by decide +kernel
theorem d_M_waterFor_31 : dI prog_8_method_65_code 31 (.ldc 226) 2 33 := by decide +kernel
theorem d_M_waterFor_33 : dI prog_8_method_65_code 33 .iastore 1 34 := by decide +kernel
theorem d_M_waterFor_34 : dI prog_8_method_65_code 34 (.aload_n 0) 1 35 := by decide +kernel
theorem d_M_waterFor_35 : dI prog_8_method_65_code 35 (.aload_n 0) 1 36 := by decide +kernel
theorem d_M_waterFor_36 : dI prog_8_method_65_code 36 (.getfield 7) 3 39 := by decide +kernel
theorem d_M_waterFor_39 : dI prog_8_method_65_code 39 (.bipush 72) 2 41 ∧ (Int8.ofInt 72).toInt32 = 72 := by decide +kernel
theorem d_M_waterFor_41 : dI prog_8_method_65_code 41 (.iload_n 1) 1 42 := by decide +kernel
theorem d_M_waterFor_42 : dI prog_8_method_65_code 42 .iadd 1 43 := by decide +kernel
theorem d_M_waterFor_43 : dI prog_8_method_65_code 43 .iaload 1 44 := by decide +kernel
theorem d_M_waterFor_44 : dI prog_8_method_65_code 44 (.invokevirtual 114) 3 47 := by decide +kernel
theorem d_M_waterFor_47 : dI prog_8_method_65_code 47 (.istore_n 3) 1 48 := by decide +kernel
theorem d_M_waterFor_48 : dI prog_8_method_65_code 48 (.iload_n 3) 1 49 := by decide +kernel
theorem d_M_waterFor_49 : dJ prog_8_method_65_code 49 (.ifCond .eq (-39)) (-39) 52 10 := by decide +kernel
theorem d_M_waterFor_52 : dI prog_8_method_65_code 52 (.iload_n 2) 1 53 := by decide +kernel
theorem d_M_waterFor_53 : dI prog_8_method_65_code 53 (.aload_n 0) 1 54 := by decide +kernel
theorem d_M_waterFor_54 : dI prog_8_method_65_code 54 (.aload_n 0) 1 55 := by decide +kernel
theorem d_M_waterFor_55 : dI prog_8_method_65_code 55 (.getfield 7) 3 58 := by decide +kernel
theorem d_M_waterFor_58 : dI prog_8_method_65_code 58 (.bipush 72) 2 60 ∧ (Int8.ofInt 72).toInt32 = 72 := by decide +kernel
theorem d_M_waterFor_60 : dI prog_8_method_65_code 60 (.iload_n 1) 1 61 := by decide +kernel
theorem d_M_waterFor_61 : dI prog_8_method_65_code 61 .iadd 1 62 := by decide +kernel
theorem d_M_waterFor_62 : dI prog_8_method_65_code 62 .iaload 1 63 := by decide +kernel
theorem d_M_waterFor_63 : dI prog_8_method_65_code 63 (.invokevirtual 98) 3 66 := by decide +kernel
theorem d_M_waterFor_66 : dI prog_8_method_65_code 66 .iadd 1 67 := by decide +kernel
theorem d_M_waterFor_67 : dI prog_8_method_65_code 67 (.istore_n 2) 1 68 := by decide +kernel
theorem d_M_waterFor_68 : dI prog_8_method_65_code 68 (.aload_n 0) 1 69 := by decide +kernel
theorem d_M_waterFor_69 : dI prog_8_method_65_code 69 (.aload_n 0) 1 70 := by decide +kernel
theorem d_M_waterFor_70 : dI prog_8_method_65_code 70 (.getfield 7) 3 73 := by decide +kernel
theorem d_M_waterFor_73 : dI prog_8_method_65_code 73 (.bipush 72) 2 75 ∧ (Int8.ofInt 72).toInt32 = 72 := by decide +kernel
theorem d_M_waterFor_75 : dI prog_8_method_65_code 75 (.iload_n 1) 1 76 := by decide +kernel
theorem d_M_waterFor_76 : dI prog_8_method_65_code 76 .iadd 1 77 := by decide +kernel
theorem d_M_waterFor_77 : dI prog_8_method_65_code 77 .iaload 1 78 := by decide +kernel
theorem d_M_waterFor_78 : dI prog_8_method_65_code 78 (.invokevirtual 117) 3 81 := by decide +kernel
theorem d_M_waterFor_81 : dI prog_8_method_65_code 81 (.iinc 1 1) 3 84 ∧ Int32.ofInt 1 = 1 := by decide +kernel
theorem d_M_waterFor_84 : dJ prog_8_method_65_code 84 (.goto (-74)) (-74) 87 10 := by decide +kernel
theorem d_M_waterFor_87 : dI prog_8_method_65_code 87 (.aload_n 0) 1 88 := by decide +kernel
theorem d_M_waterFor_88 : dI prog_8_method_65_code 88 (.invokevirtual 121) 3 91 := by decide +kernel
theorem d_M_waterFor_91 : dI prog_8_method_65_code 91 (.iload_n 3) 1 92 := by decide +kernel
theorem d_M_waterFor_92 : dJ prog_8_method_65_code 92 (.ifCond .eq 14) 14 95 106 := by decide +kernel
theorem d_M_waterFor_95 : dI prog_8_method_65_code 95 (.iload_n 2) 1 96 := by decide +kernel
theorem d_M_waterFor_96 : dI prog_8_method_65_code 96 (.sipush 9999) 3 99 ∧ (Int16.ofInt 9999).toInt32 = 9999 := by decide +kernel
theorem d_M_waterFor_99 : dJ prog_8_method_65_code 99 (.if_icmp .gt 7) 7 102 106 := by decide +kernel
theorem d_M_waterFor_102 : dI prog_8_method_65_code 102 (.iload_n 2) 1 103 := by decide +kernel
theorem d_M_waterFor_103 : dJ prog_8_method_65_code 103 (.goto 8) 8 106 111 := by decide +kernel
theorem d_M_waterFor_106 : dI prog_8_method_65_code 106 (.aload_n 0) 1 107 := by decide +kernel
theorem d_M_waterFor_107 : dI prog_8_method_65_code 107 (.iconst 3) 1 108 ∧ Int32.ofInt 3 = 3 := by decide +kernel
theorem d_M_waterFor_108 : dI prog_8_method_65_code 108 (.invokevirtual 61) 3 111 := by decide +kernel
theorem d_M_waterFor_111 : decode prog_8_method_65_code 111 = .ok (.ireturn, 1) := by decide +kernel
theorem d_M_boardsFor_0 : dI prog_8_method_66_code 0 (.iload_n 1) 1 1 := by decide +kernel
theorem d_M_boardsFor_1 : dI prog_8_method_66_code 1 (.iconst 1) 1 2 ∧ Int32.ofInt 1 = 1 := by decide +kernel
theorem d_M_boardsFor_2 : dI prog_8_method_66_code 2 (.bipush 9) 2 4 ∧ (Int8.ofInt 9).toInt32 = 9 := by decide +kernel
theorem d_M_boardsFor_4 : dI prog_8_method_66_code 4 (.invokestatic 45) 3 7 := by decide +kernel
theorem d_M_boardsFor_7 : dJ prog_8_method_66_code 7 (.ifCond .ne 9) 9 10 16 := by decide +kernel
theorem d_M_boardsFor_10 : dI prog_8_method_66_code 10 (.aload_n 0) 1 11 := by decide +kernel
theorem d_M_boardsFor_11 : dI prog_8_method_66_code 11 (.iconst 0) 1 12 ∧ Int32.ofInt 0 = 0 := by decide +kernel
theorem d_M_boardsFor_12 : dI prog_8_method_66_code 12 (.invokevirtual 61) 3 15 := by decide +kernel
theorem d_M_boardsFor_15 : decode prog_8_method_66_code 15 = .ok (.ireturn, 1) := by decide +kernel
theorem d_M_boardsFor_16 : dI prog_8_method_66_code 16 (.iconst (-1)) 1 17 ∧ Int32.ofInt (-1) = (-1) := by decide +kernel
theorem d_M_boardsFor_17 : dI prog_8_method_66_code 17 (.istore_n 2) 1 18 := by decide +kernel
theorem d_M_boardsFor_18 : dI prog_8_method_66_code 18 (.iconst 0) 1 19 ∧ Int32.ofInt 0 = 0 := by decide +kernel
theorem d_M_boardsFor_19 : dI prog_8_method_66_code 19 (.istore_n 3) 1 20 := by decide +kernel
theorem d_M_boardsFor_20 : dI prog_8_method_66_code 20 (.iload_n 3) 1 21 := by decide +kernel
theorem d_M_boardsFor_21 : dI prog_8_method_66_code 21 (.bipush 8) 2 23 ∧ (Int8.ofInt 8).toInt32 = 8 := by decide +kernel
theorem d_M_boardsFor_23 : dJ prog_8_method_66_code 23 (.if_icmp .gt 73) 73 26 96 := by decide +kernel
theorem d_M_boardsFor_26 : dI prog_8_method_66_code 26 (.iload_n 2) 1 27 := by decide +kernel
theorem d_M_boardsFor_27 : dJ prog_8_method_66_code 27 (.ifCond .ge 69) 69 30 96 := by decide +kernel
theorem d_M_boardsFor_30 : dI prog_8_method_66_code 30 (.aload_n 0) 1 31 := by decide +kernel
theorem d_M_boardsFor_31 : dI prog_8_method_66_code 31 (.invokevirtual 124) 3 34 := by decide +kernel
theorem d_M_boardsFor_34 : dI prog_8_method_66_code 34 (.aload_n 0) 1 35 := by decide +kernel
theorem d_M_boardsFor_35 : dI prog_8_method_66_code 35 (.getfield 7) 3 38 := by decide +kernel
theorem d_M_boardsFor_38 : dI prog_8_method_66_code 38 (.iconst 4) 1 39 ∧ Int32.ofInt 4 = 4 := by decide +kernel
theorem d_M_boardsFor_39 : dI prog_8_method_66_code 39 (.iload_n 3) 1 40 := by decide +kernel
theorem d_M_boardsFor_40 : dI prog_8_method_66_code 40 .iastore 1 41 := by decide +kernel
theorem d_M_boardsFor_41 : dI prog_8_method_66_code 41 (.aload_n 0) 1 42 := by decide +kernel
theorem d_M_boardsFor_42 : dI prog_8_method_66_code 42 (.iconst 2) 1 43 ∧ Int32.ofInt 2 = 2 := by decide +kernel
theorem d_M_boardsFor_43 : dI prog_8_method_66_code 43 (.invokevirtual 114) 3 46 := by decide +kernel
theorem d_M_boardsFor_46 : dI prog_8_method_66_code 46 (.istore 4) 2 48 := by decide +kernel
theorem d_M_boardsFor_48 : dI prog_8_method_66_code 48 (.iload 4) 2 50 := by decide +kernel
theorem d_M_boardsFor_50 : dJ prog_8_method_66_code 50 (.ifCond .eq 8) 8 53 58 := by decide +kernel
theorem d_M_boardsFor_53 : dI prog_8_method_66_code 53 (.aload_n 0) 1 54 := by decide +kernel
theorem d_M_boardsFor_54 : dI prog_8_method_66_code 54 (.iconst 2) 1 55 ∧ Int32.ofInt 2 = 2 := by decide +kernel
theorem d_M_boardsFor_55 : dI prog_8_method_66_code 55 (.invokevirtual 117) 3 58 := by decide +kernel
theorem d_M_boardsFor_58 : dI prog_8_method_66_code 58 (.iload 4) 2 60 := by decide +kernel
theorem d_M_boardsFor_60 : dJ prog_8_method_66_code 60 (.ifCond .eq 24) 24 63 84 := by decide +kernel
theorem d_M_boardsFor_63 : dI prog_8_method_66_code 63 (.aload_n 0) 1 64 := by decide +kernel
theorem d_M_boardsFor_64 : dI prog_8_method_66_code 64 (.getfield 7) 3 67 := by decide +kernel
theorem d_M_boardsFor_67 : dI prog_8_method_66_code 67 (.iconst 0) 1 68 ∧ Int32.ofInt 0 = 0 := by decide +kernel
theorem d_M_boardsFor_68 : dI prog_8_method_66_code 68 .iaload 1 69 := by decide +kernel
theorem d_M_boardsFor_69 : dI prog_8_method_66_code 69 (.aload_n 0) 1 70 := by decide +kernel
theorem d_M_boardsFor_70 : dI prog_8_method_66_code 70 (.getfield 16) 3 73 := by decide +kernel
theorem d_M_boardsFor_73 : dI prog_8_method_66_code 73 (.iconst 0) 1 74 ∧ Int32.ofInt 0 = 0 := by decide +kernel
theorem d_M_boardsFor_74 : dI prog_8_method_66_code 74 .iaload 1 75 := by decide +kernel
theorem d_M_boardsFor_75 : dI prog_8_method_66_code 75 .isub 1 76 := by decide +kernel
theorem d_M_boardsFor_76 : dI prog_8_method_66_code 76 (.iload_n 1) 1 77 := by decide +kernel
theorem d_M_boardsFor_77 : dJ prog_8_method_66_code 77 (.if_icmp .lt 7) 7 80 84 := by decide +kernel
theorem d_M_boardsFor_80 : dI prog_8_method_66_code 80 (.iload_n 3) 1 81 := by decide +kernel
theorem d_M_boardsFor_81 : dJ prog_8_method_66_code 81 (.goto 4) 4 84 85 := by decide +kernel
theorem d_M_boardsFor_84 : dI prog_8_method_66_code 84 (.iconst (-1)) 1 85 ∧ Int32.ofInt (-1) = (-1) := by decide +kernel
theorem d_M_boardsFor_85 : dI prog_8_method_66_code 85 (.istore_n 2) 1 86 := by decide +kernel
theorem d_M_boardsFor_86 : dI prog_8_method_66_code 86 (.aload_n 0) 1 87 := by decide +kernel
theorem d_M_boardsFor_87 : dI prog_8_method_66_code 87 (.invokevirtual 121) 3 90 := by decide +kernel
theorem d_M_boardsFor_90 : dI prog_8_method_66_code 90 (.iinc 3 1) 3 93 ∧ Int32.ofInt 1 = 1 := by decide +kernel
theorem d_M_boardsFor_93 : dJ prog_8_method_66_code 93 (.goto (-73)) (-73) 96 20 := by decide +kernel
theorem d_M_boardsFor_96 : dI prog_8_method_66_code 96 (.iload_n 2) 1 97 := by decide +kernel
theorem d_M_boardsFor_97 : dJ prog_8_method_66_code 97 (.ifCond .ge 11) 11 100 108 := by decide +kernel
theorem d_M_boardsFor_100 : dI prog_8_method_66_code 100 (.aload_n 0) 1 101 := by decide +kernel
theorem d_M_boardsFor_101 : dI prog_8_method_66_code 101 (.iconst 3) 1 102 ∧ Int32.ofInt 3 = 3 := by decide +kernel
theorem d_M_boardsFor_102 : dI prog_8_method_66_code 102 (.invokevirtual 61) 3 105 := by decide +kernel
theorem d_M_boardsFor_105 : dJ prog_8_method_66_code 105 (.goto 4) 4 108 109 := by decide +kernel
theorem d_M_boardsFor_108 : dI prog_8_method_66_code 108 (.iload_n 2) 1 109 := by decide +kernel
theorem d_M_boardsFor_109 : decode prog_8_method_66_code 109 = .ok (.ireturn, 1) := by decide +kernel
theorem d_M_way_0 : dI prog_8_method_67_code 0 (.aload_n 0) 1 1 := by decide +kernel
theorem d_M_way_1 : dI prog_8_method_67_code 1 (.iconst 0) 1 2 ∧ Int32.ofInt 0 = 0 := by decide +kernel
theorem d_M_way_2 : dI prog_8_method_67_code 2 (.bipush 20) 2 4 ∧ (Int8.ofInt 20).toInt32 = 20 := by decide +kernel
theorem d_M_way_4 : dI prog_8_method_67_code 4 (.invokevirtual 133) 3 7 := by decide +kernel
theorem d_M_way_7 : dI prog_8_method_67_code 7 (.istore_n 1) 1 8 := by decide +kernel
theorem d_M_way_8 : dI prog_8_method_67_code 8 (.aload_n 0) 1 9 := by decide +kernel
theorem d_M_way_9 : dI prog_8_method_67_code 9 (.bipush 6) 2 11 ∧ (Int8.ofInt 6).toInt32 = 6 := by decide +kernel
theorem d_M_way_11 : dI prog_8_method_67_code 11 (.bipush 20) 2 13 ∧ (Int8.ofInt 20).toInt32 = 20 := by decide +kernel
theorem d_M_way_13 : dI prog_8_method_67_code 13 (.invokevirtual 133) 3 16 := by decide +kernel
theorem d_M_way_16 : dI prog_8_method_67_code 16 (.istore_n 2) 1 17 := by decide +kernel
theorem d_M_way_17 : dI prog_8_method_67_code 17 (.iload_n 1) 1 18 := by decide +kernel
theorem d_M_way_18 : dJ prog_8_method_67_code 18 (.ifCond .lt 16) 16 21 34 := by decide +kernel
theorem d_M_way_21 : dI prog_8_method_67_code 21 (.iload_n 2) 1 22 := by decide +kernel
theorem d_M_way_22 : dJ prog_8_method_67_code 22 (.ifCond .lt 8) 8 25 30 := by decide +kernel
theorem d_M_way_25 : dI prog_8_method_67_code 25 (.iload_n 1) 1 26 := by decide +kernel
theorem d_M_way_26 : dI prog_8_method_67_code 26 (.iload_n 2) 1 27 := by decide +kernel
theorem d_M_way_27 : dJ prog_8_method_67_code 27 (.if_icmp .gt 7) 7 30 34 := by decide +kernel
theorem d_M_way_30 : dI prog_8_method_67_code 30 (.iconst 1) 1 31 ∧ Int32.ofInt 1 = 1 := by decide +kernel
theorem d_M_way_31 : dJ prog_8_method_67_code 31 (.goto 12) 12 34 43 := by decide +kernel
theorem d_M_way_34 : dI prog_8_method_67_code 34 (.iload_n 2) 1 35 := by decide +kernel
theorem d_M_way_35 : dJ prog_8_method_67_code 35 (.ifCond .lt 7) 7 38 42 := by decide +kernel
theorem d_M_way_38 : dI prog_8_method_67_code 38 (.iconst (-1)) 1 39 ∧ Int32.ofInt (-1) = (-1) := by decide +kernel
theorem d_M_way_39 : dJ prog_8_method_67_code 39 (.goto 4) 4 42 43 := by decide +kernel
theorem d_M_way_42 : dI prog_8_method_67_code 42 (.iconst 0) 1 43 ∧ Int32.ofInt 0 = 0 := by decide +kernel
theorem d_M_way_43 : decode prog_8_method_67_code 43 = .ok (.ireturn, 1) := by decide +kernel
theorem d_M_odds_0 : dI prog_8_method_68_code 0 (.iload_n 1) 1 1 := by decide +kernel
theorem d_M_odds_1 : dI prog_8_method_68_code 1 (.iconst 1) 1 2 ∧ Int32.ofInt 1 = 1 := by decide +kernel
theorem d_M_odds_2 : dI prog_8_method_68_code 2 (.bipush 20) 2 4 ∧ (Int8.ofInt 20).toInt32 = 20 := by decide +kernel
theorem d_M_odds_4 : dI prog_8_method_68_code 4 (.invokestatic 45) 3 7 := by decide +kernel
theorem d_M_odds_7 : dJ prog_8_method_68_code 7 (.ifCond .ne 9) 9 10 16 := by decide +kernel
theorem d_M_odds_10 : dI prog_8_method_68_code 10 (.aload_n 0) 1 11 := by decide +kernel
theorem d_M_odds_11 : dI prog_8_method_68_code 11 (.iconst 0) 1 12 ∧ Int32.ofInt 0 = 0 := by decide +kernel
theorem d_M_odds_12 : dI prog_8_method_68_code 12 (.invokevirtual 61) 3 15 := by decide +kernel
theorem d_M_odds_15 : decode prog_8_method_68_code 15 = .ok (.ireturn, 1) := by decide +kernel
theorem d_M_odds_16 : dI prog_8_method_68_code 16 (.aload_n 0) 1 17 := by decide +kernel
theorem d_M_odds_17 : dI prog_8_method_68_code 17 (.invokevirtual 81) 3 20 := by decide +kernel
theorem d_M_odds_20 : dJ prog_8_method_68_code 20 (.ifCond .eq 9) 9 23 29 := by decide +kernel
theorem d_M_odds_23 : dI prog_8_method_68_code 23 (.aload_n 0) 1 24 := by decide +kernel
theorem d_M_odds_24 : dI prog_8_method_68_code 24 (.iconst 4) 1 25 ∧ Int32.ofInt 4 = 4 := by decide +kernel
theorem d_M_odds_25 : dI prog_8_method_68_code 25 (.invokevirtual 61) 3 28 := by decide +kernel
theorem d_M_odds_28 : decode prog_8_method_68_code 28 = .ok (.ireturn, 1) := by decide +kernel
theorem d_M_odds_29 : dI prog_8_method_68_code 29 (.iconst 0) 1 30 ∧ Int32.ofInt 0 = 0 := by decide +kernel
theorem d_M_odds_30 : dI prog_8_method_68_code 30 (.istore_n 2) 1 31 := by decide +kernel
theorem d_M_odds_31 : dI prog_8_method_68_code 31 (.iconst 0) 1 32 ∧ Int32.ofInt 0 = 0 := by decide +kernel
theorem d_M_odds_32 : dI prog_8_method_68_code 32 (.istore_n 3) 1 33 := by decide +kernel
theorem d_M_odds_33 : dI prog_8_method_68_code 33 (.iload_n 3) 1 34 := by decide +kernel
theorem d_M_odds_34 : dI prog_8_method_68_code 34 (.iload_n 1) 1 35 := by decide +kernel
theorem d_M_odds_35 : dJ prog_8_method_68_code 35 (.if_icmp .ge 41) 41 38 76 := by decide +kernel
theorem d_M_odds_38 : dI prog_8_method_68_code 38 (.iload_n 2) 1 39 := by decide +kernel
theorem d_M_odds_39 : dI prog_8_method_68_code 39 (.aload_n 0) 1 40 := by decide +kernel
theorem d_M_odds_40 : dI prog_8_method_68_code 40 (.aload_n 0) 1 41 := by decide +kernel
theorem d_M_odds_41 : dI prog_8_method_68_code 41 (.invokevirtual 86) 3 44 := by decide +kernel
theorem d_M_odds_44 : dI prog_8_method_68_code 44 (.bipush 100) 2 46 ∧ (Int8.ofInt 100).toInt32 = 100 := by decide +kernel
theorem d_M_odds_46 : dI prog_8_method_68_code 46 .irem 1 47 := by decide +kernel
theorem d_M_odds_47 : dI prog_8_method_68_code 47 (.aload_n 0) 1 48 := by decide +kernel
theorem d_M_odds_48 : dI prog_8_method_68_code 48 (.getfield 7) 3 51 := by decide +kernel
theorem d_M_odds_51 : dI prog_8_method_68_code 51 (.iconst 3) 1 52 ∧ Int32.ofInt 3 = 3 := by decide +kernel
theorem d_M_odds_52 : dI prog_8_method_68_code 52 .iaload 1 53 := by decide +kernel
theorem d_M_odds_53 : dI prog_8_method_68_code 53 (.invokevirtual 57) 3 56 := by decide +kernel
theorem d_M_odds_56 : dI prog_8_method_68_code 56 (.aload_n 0) 1 57 := by decide +kernel
theorem d_M_odds_57 : dI prog_8_method_68_code 57 (.invokevirtual 78) 3 60 := by decide +kernel
theorem d_M_odds_60 : dJ prog_8_method_68_code 60 (.if_icmp .lt 7) 7 63 67 := by decide +kernel
theorem d_M_odds_63 : dI prog_8_method_68_code 63 (.iconst 1) 1 64 ∧ Int32.ofInt 1 = 1 := by decide +kernel
theorem d_M_odds_64 : dJ prog_8_method_68_code 64 (.goto 4) 4 67 68 := by decide +kernel
theorem d_M_odds_67 : dI prog_8_method_68_code 67 (.iconst 0) 1 68 ∧ Int32.ofInt 0 = 0 := by decide +kernel
theorem d_M_odds_68 : dI prog_8_method_68_code 68 .iadd 1 69 := by decide +kernel
theorem d_M_odds_69 : dI prog_8_method_68_code 69 (.istore_n 2) 1 70 := by decide +kernel
theorem d_M_odds_70 : dI prog_8_method_68_code 70 (.iinc 3 1) 3 73 ∧ Int32.ofInt 1 = 1 := by decide +kernel
theorem d_M_odds_73 : dJ prog_8_method_68_code 73 (.goto (-40)) (-40) 76 33 := by decide +kernel
theorem d_M_odds_76 : dI prog_8_method_68_code 76 (.iload_n 2) 1 77 := by decide +kernel
theorem d_M_odds_77 : decode prog_8_method_68_code 77 = .ok (.ireturn, 1) := by decide +kernel
theorem d_M_seed_0 : dI prog_8_method_69_code 0 (.aload_n 0) 1 1 := by decide +kernel
theorem d_M_seed_1 : dI prog_8_method_69_code 1 (.getfield 7) 3 4 := by decide +kernel
theorem d_M_seed_4 : dI prog_8_method_69_code 4 (.bipush 10) 2 6 ∧ (Int8.ofInt 10).toInt32 = 10 := by decide +kernel
theorem d_M_seed_6 : dI prog_8_method_69_code 6 .iaload 1 7 := by decide +kernel
theorem d_M_seed_7 : dI prog_8_method_69_code 7 (.istore_n 2) 1 8 := by decide +kernel
theorem d_M_seed_8 : dI prog_8_method_69_code 8 (.aload_n 0) 1 9 := by decide +kernel
theorem d_M_seed_9 : dI prog_8_method_69_code 9 (.getfield 7) 3 12 := by decide +kernel
theorem d_M_seed_12 : dI prog_8_method_69_code 12 (.bipush 10) 2 14 ∧ (Int8.ofInt 10).toInt32 = 10 := by decide +kernel
theorem d_M_seed_14 : dI prog_8_method_69_code 14 (.iload_n 1) 1 15 := by decide +kernel
theorem d_M_seed_15 : dI prog_8_method_69_code 15 .iastore 1 16 := by decide +kernel
theorem d_M_seed_16 : dI prog_8_method_69_code 16 (.iload_n 2) 1 17 := by decide +kernel
theorem d_M_seed_17 : decode prog_8_method_69_code 17 = .ok (.ireturn, 1) := by decide +kernel
theorem d_M_hold_0 : dI prog_8_method_70_code 0 (.iload_n 1) 1 1 := by decide +kernel
theorem d_M_hold_1 : dI prog_8_method_70_code 1 (.iconst 0) 1 2 ∧ Int32.ofInt 0 = 0 := by decide +kernel
theorem d_M_hold_2 : dI prog_8_method_70_code 2 (.bipush 9) 2 4 ∧ (Int8.ofInt 9).toInt32 = 9 := by decide +kernel
theorem d_M_hold_4 : dI prog_8_method_70_code 4 (.invokestatic 45) 3 7 := by decide +kernel
theorem d_M_hold_7 : dJ prog_8_method_70_code 7 (.ifCond .eq 15) 15 10 22 := by decide +kernel
theorem d_M_hold_10 : dI prog_8_method_70_code 10 (.iload_n 2) 1 11 := by decide +kernel
theorem d_M_hold_11 : dI prog_8_method_70_code 11 (.iconst (-1)) 1 12 ∧ Int32.ofInt (-1) = (-1) := by decide +kernel
theorem d_M_hold_12 : dJ prog_8_method_70_code 12 (.if_icmp .eq 16) 16 15 28 := by decide +kernel
theorem d_M_hold_15 : dI prog_8_method_70_code 15 (.iload_n 2) 1 16 := by decide +kernel
theorem d_M_hold_16 : dI prog_8_method_70_code 16 (.invokestatic 108) 3 19 := by decide +kernel
theorem d_M_hold_19 : dJ prog_8_method_70_code 19 (.ifCond .ne 9) 9 22 28 := by decide +kernel
theorem d_M_hold_22 : dI prog_8_method_70_code 22 (.aload_n 0) 1 23 := by decide +kernel
theorem d_M_hold_23 : dI prog_8_method_70_code 23 (.iconst 0) 1 24 ∧ Int32.ofInt 0 = 0 := by decide +kernel
theorem d_M_hold_24 : dI prog_8_method_70_code 24 (.invokevirtual 61) 3 27 := by decide +kernel
theorem d_M_hold_27 : decode prog_8_method_70_code 27 = .ok (.ireturn, 1) := by decide +kernel
theorem d_M_hold_28 : dI prog_8_method_70_code 28 (.aload_n 0) 1 29 := by decide +kernel
theorem d_M_hold_29 : dI prog_8_method_70_code 29 (.getfield 7) 3 32 := by decide +kernel
theorem d_M_hold_32 : dI prog_8_method_70_code 32 (.bipush 62) 2 34 ∧ (Int8.ofInt 62).toInt32 = 62 := by decide +kernel
theorem d_M_hold_34 : dI prog_8_method_70_code 34 (.iload_n 1) 1 35 := by decide +kernel
theorem d_M_hold_35 : dI prog_8_method_70_code 35 .iadd 1 36 := by decide +kernel
theorem d_M_hold_36 : dI prog_8_method_70_code 36 (.iload_n 2) 1 37 := by decide +kernel
theorem d_M_hold_37 : dI prog_8_method_70_code 37 .iastore 1 38 := by decide +kernel
theorem d_M_hold_38 : dI prog_8_method_70_code 38 (.iconst 1) 1 39 ∧ Int32.ofInt 1 = 1 := by decide +kernel
theorem d_M_hold_39 : decode prog_8_method_70_code 39 = .ok (.ireturn, 1) := by decide +kernel
theorem d_M_isUnder_0 : dI prog_8_method_71_code 0 (.iload_n 1) 1 1 := by decide +kernel
theorem d_M_isUnder_1 : dJ prog_8_method_71_code 1 (.ifCond .eq 33) 33 4 34 := by decide +kernel
theorem d_M_isUnder_4 : dI prog_8_method_71_code 4 (.iload_n 0) 1 5 := by decide +kernel
theorem d_M_isUnder_5 : dI prog_8_method_71_code 5 (.iload_n 1) 1 6 := by decide +kernel
theorem d_M_isUnder_6 : dJ prog_8_method_71_code 6 (.if_icmp .eq 28) 28 9 34 := by decide +kernel
theorem d_M_isUnder_9 : dI prog_8_method_71_code 9 (.iload_n 1) 1 10 := by decide +kernel
theorem d_M_isUnder_10 : dI prog_8_method_71_code 10 (.iconst 1) 1 11 ∧ Int32.ofInt 1 = 1 := by decide +kernel
theorem d_M_isUnder_11 : dJ prog_8_method_71_code 11 (.if_icmp .ne 13) 13 14 24 := by decide +kernel
theorem d_M_isUnder_14 : dI prog_8_method_71_code 14 (.iload_n 0) 1 15 := by decide +kernel
theorem d_M_isUnder_15 : dI prog_8_method_71_code 15 (.iconst 2) 1 16 ∧ Int32.ofInt 2 = 2 := by decide +kernel
theorem d_M_isUnder_16 : dJ prog_8_method_71_code 16 (.if_icmp .eq 18) 18 19 34 := by decide +kernel
theorem d_M_isUnder_19 : dI prog_8_method_71_code 19 (.iload_n 0) 1 20 := by decide +kernel
theorem d_M_isUnder_20 : dI prog_8_method_71_code 20 (.iconst 5) 1 21 ∧ Int32.ofInt 5 = 5 := by decide +kernel
theorem d_M_isUnder_21 : dJ prog_8_method_71_code 21 (.if_icmp .eq 13) 13 24 34 := by decide +kernel
theorem d_M_isUnder_24 : dI prog_8_method_71_code 24 (.iload_n 1) 1 25 := by decide +kernel
theorem d_M_isUnder_25 : dI prog_8_method_71_code 25 (.iconst 2) 1 26 ∧ Int32.ofInt 2 = 2 := by decide +kernel
theorem d_M_isUnder_26 : dJ prog_8_method_71_code 26 (.if_icmp .ne 12) 12 29 38 := by decide +kernel
theorem d_M_isUnder_29 : dI prog_8_method_71_code 29 (.iload_n 0) 1 30 := by decide +kernel
theorem d_M_isUnder_30 : dI prog_8_method_71_code 30 (.iconst 5) 1 31 ∧ Int32.ofInt 5 = 5 := by decide +kernel
theorem d_M_isUnder_31 : dJ prog_8_method_71_code 31 (.if_icmp .ne 7) 7 34 38 := by decide +kernel
theorem d_M_isUnder_34 : dI prog_8_method_71_code 34 (.iconst 1) 1 35 ∧ Int32.ofInt 1 = 1 := by decide +kernel
theorem d_M_isUnder_35 : dJ prog_8_method_71_code 35 (.goto 4) 4 38 39 := by decide +kernel
theorem d_M_isUnder_38 : dI prog_8_method_71_code 38 (.iconst 0) 1 39 ∧ Int32.ofInt 0 = 0 := by decide +kernel
theorem d_M_isUnder_39 : decode prog_8_method_71_code 39 = .ok (.ireturn, 1) := by decide +kernel
theorem d_M_as_0 : dI prog_8_method_72_code 0 (.iload_n 1) 1 1 := by decide +kernel
theorem d_M_as_1 : dI prog_8_method_72_code 1 (.iconst 0) 1 2 ∧ Int32.ofInt 0 = 0 := by decide +kernel
theorem d_M_as_2 : dI prog_8_method_72_code 2 (.bipush 9) 2 4 ∧ (Int8.ofInt 9).toInt32 = 9 := by decide +kernel
theorem d_M_as_4 : dI prog_8_method_72_code 4 (.invokestatic 45) 3 7 := by decide +kernel
theorem d_M_as_7 : dJ prog_8_method_72_code 7 (.ifCond .eq 10) 10 10 17 := by decide +kernel
theorem d_M_as_10 : dI prog_8_method_72_code 10 (.iload_n 2) 1 11 := by decide +kernel
theorem d_M_as_11 : dI prog_8_method_72_code 11 (.invokestatic 111) 3 14 := by decide +kernel
theorem d_M_as_14 : dJ prog_8_method_72_code 14 (.ifCond .ne 9) 9 17 23 := by decide +kernel
theorem d_M_as_17 : dI prog_8_method_72_code 17 (.aload_n 0) 1 18 := by decide +kernel
theorem d_M_as_18 : dI prog_8_method_72_code 18 (.iconst 0) 1 19 ∧ Int32.ofInt 0 = 0 := by decide +kernel
theorem d_M_as_19 : dI prog_8_method_72_code 19 (.invokevirtual 61) 3 22 := by decide +kernel
theorem d_M_as_22 : decode prog_8_method_72_code 22 = .ok (.ireturn, 1) := by decide +kernel
theorem d_M_as_23 : dI prog_8_method_72_code 23 (.aload_n 0) 1 24 := by decide +kernel
theorem d_M_as_24 : dI prog_8_method_72_code 24 (.getfield 7) 3 27 := by decide +kernel
theorem d_M_as_27 : dI prog_8_method_72_code 27 (.bipush 62) 2 29 ∧ (Int8.ofInt 62).toInt32 = 62 := by decide +kernel
theorem d_M_as_29 : dI prog_8_method_72_code 29 (.iload_n 1) 1 30 := by decide +kernel
theorem d_M_as_30 : dI prog_8_method_72_code 30 .iadd 1 31 := by decide +kernel
theorem d_M_as_31 : dI prog_8_method_72_code 31 .iaload 1 32 := by decide +kernel
theorem d_M_as_32 : dI prog_8_method_72_code 32 (.istore_n 3) 1 33 := by decide +kernel
theorem d_M_as_33 : dI prog_8_method_72_code 33 (.iload_n 3) 1 34 := by decide +kernel
theorem d_M_as_34 : dI prog_8_method_72_code 34 (.iconst (-1)) 1 35 ∧ Int32.ofInt (-1) = (-1) := by decide +kernel
theorem d_M_as_35 : dJ prog_8_method_72_code 35 (.if_icmp .eq 16) 16 38 51 := by decide +kernel
theorem d_M_as_38 : dI prog_8_method_72_code 38 (.aload_n 0) 1 39 := by decide +kernel
theorem d_M_as_39 : dI prog_8_method_72_code 39 (.getfield 7) 3 42 := by decide +kernel
theorem d_M_as_42 : dI prog_8_method_72_code 42 (.bipush 52) 2 44 ∧ (Int8.ofInt 52).toInt32 = 52 := by decide +kernel
theorem d_M_as_44 : dI prog_8_method_72_code 44 (.iload_n 3) 1 45 := by decide +kernel
theorem d_M_as_45 : dI prog_8_method_72_code 45 .iadd 1 46 := by decide +kernel
theorem d_M_as_46 : dI prog_8_method_72_code 46 .iaload 1 47 := by decide +kernel
theorem d_M_as_47 : dI prog_8_method_72_code 47 (.iconst (-1)) 1 48 ∧ Int32.ofInt (-1) = (-1) := by decide +kernel
theorem d_M_as_48 : dJ prog_8_method_72_code 48 (.if_icmp .ne 9) 9 51 57 := by decide +kernel
theorem d_M_as_51 : dI prog_8_method_72_code 51 (.aload_n 0) 1 52 := by decide +kernel
theorem d_M_as_52 : dI prog_8_method_72_code 52 (.iconst 5) 1 53 ∧ Int32.ofInt 5 = 5 := by decide +kernel
theorem d_M_as_53 : dI prog_8_method_72_code 53 (.invokevirtual 61) 3 56 := by decide +kernel
theorem d_M_as_56 : decode prog_8_method_72_code 56 = .ok (.ireturn, 1) := by decide +kernel
theorem d_M_as_57 : dI prog_8_method_72_code 57 (.aload_n 0) 1 58 := by decide +kernel
theorem d_M_as_58 : dI prog_8_method_72_code 58 (.getfield 7) 3 61 := by decide +kernel
theorem d_M_as_61 : dI prog_8_method_72_code 61 (.bipush 52) 2 63 ∧ (Int8.ofInt 52).toInt32 = 52 := by decide +kernel
theorem d_M_as_63 : dI prog_8_method_72_code 63 (.iload_n 3) 1 64 := by decide +kernel
theorem d_M_as_64 : dI prog_8_method_72_code 64 .iadd 1 65 := by decide +kernel
theorem d_M_as_65 : dI prog_8_method_72_code 65 .iaload 1 66 := by decide +kernel
theorem d_M_as_66 : dI prog_8_method_72_code 66 (.iload_n 2) 1 67 := by decide +kernel
theorem d_M_as_67 : dI prog_8_method_72_code 67 (.invokestatic 227) 3 70 := by decide +kernel
theorem d_M_as_70 : dJ prog_8_method_72_code 70 (.ifCond .eq 7) 7 73 77 := by decide +kernel
theorem d_M_as_73 : dI prog_8_method_72_code 73 (.iload_n 3) 1 74 := by decide +kernel
theorem d_M_as_74 : dJ prog_8_method_72_code 74 (.goto 8) 8 77 82 := by decide +kernel
theorem d_M_as_77 : dI prog_8_method_72_code 77 (.aload_n 0) 1 78 := by decide +kernel
theorem d_M_as_78 : dI prog_8_method_72_code 78 (.iconst 2) 1 79 ∧ Int32.ofInt 2 = 2 := by decide +kernel
theorem d_M_as_79 : dI prog_8_method_72_code 79 (.invokevirtual 61) 3 82 := by decide +kernel
theorem d_M_as_82 : decode prog_8_method_72_code 82 = .ok (.ireturn, 1) := by decide +kernel
theorem d_M_isSheet_0 : dI prog_8_method_73_code 0 (.iload_n 0) 1 1 := by decide +kernel
theorem d_M_isSheet_1 : dI prog_8_method_73_code 1 (.iconst 0) 1 2 ∧ Int32.ofInt 0 = 0 := by decide +kernel
theorem d_M_isSheet_2 : dI prog_8_method_73_code 2 (.iconst 3) 1 3 ∧ Int32.ofInt 3 = 3 := by decide +kernel
theorem d_M_isSheet_3 : dI prog_8_method_73_code 3 (.invokestatic 45) 3 6 := by decide +kernel
theorem d_M_isSheet_6 : decode prog_8_method_73_code 6 = .ok (.ireturn, 1) := by decide +kernel
theorem d_M_sheet_0 : dI prog_8_method_74_code 0 (.iload_n 1) 1 1 := by decide +kernel
theorem d_M_sheet_1 : dI prog_8_method_74_code 1 (.invokestatic 230) 3 4 := by decide +kernel
theorem d_M_sheet_4 : dJ prog_8_method_74_code 4 (.ifCond .eq 25) 25 7 29 := by decide +kernel
theorem d_M_sheet_7 : dI prog_8_method_74_code 7 (.iload_n 2) 1 8 := by decide +kernel
theorem d_M_sheet_8 : dJ prog_8_method_74_code 8 (.ifCond .eq 27) 27 11 35 := by decide +kernel
theorem d_M_sheet_11 : dI prog_8_method_74_code 11 (.iload_n 2) 1 12 := by decide +kernel
theorem d_M_sheet_12 : dI prog_8_method_74_code 12 (.bipush 8) 2 14 ∧ (Int8.ofInt 8).toInt32 = 8 := by decide +kernel
theorem d_M_sheet_14 : dJ prog_8_method_74_code 14 (.if_icmp .eq 21) 21 17 35 := by decide +kernel
theorem d_M_sheet_17 : dI prog_8_method_74_code 17 (.iload_n 2) 1 18 := by decide +kernel
theorem d_M_sheet_18 : dI prog_8_method_74_code 18 (.bipush 16) 2 20 ∧ (Int8.ofInt 16).toInt32 = 16 := by decide +kernel
theorem d_M_sheet_20 : dJ prog_8_method_74_code 20 (.if_icmp .eq 15) 15 23 35 := by decide +kernel
theorem d_M_sheet_23 : dI prog_8_method_74_code 23 (.iload_n 2) 1 24 := by decide +kernel
theorem d_M_sheet_24 : dI prog_8_method_74_code 24 (.bipush 32) 2 26 ∧ (Int8.ofInt 32).toInt32 = 32 := by decide +kernel
theorem d_M_sheet_26 : dJ prog_8_method_74_code 26 (.if_icmp .eq 9) 9 29 35 := by decide +kernel
theorem d_M_sheet_29 : dI prog_8_method_74_code 29 (.aload_n 0) 1 30 := by decide +kernel
theorem d_M_sheet_30 : dI prog_8_method_74_code 30 (.iconst 0) 1 31 ∧ Int32.ofInt 0 = 0 := by decide +kernel
theorem d_M_sheet_31 : dI prog_8_method_74_code 31 (.invokevirtual 61) 3 34 := by decide +kernel
theorem d_M_sheet_34 : decode prog_8_method_74_code 34 = .ok (.ireturn, 1) := by decide +kernel
theorem d_M_sheet_35 : dI prog_8_method_74_code 35 (.iload_n 3) 1 36 := by decide +kernel
theorem d_M_sheet_36 : dJ prog_8_method_74_code 36 (.ifCond .ge 10) 10 39 46 := by decide +kernel
theorem d_M_sheet_39 : dI prog_8_method_74_code 39 (.aload_n 0) 1 40 := by decide +kernel
theorem d_M_sheet_40 : dI prog_8_method_74_code 40 (.bipush 6) 2 42 ∧ (Int8.ofInt 6).toInt32 = 6 := by decide +kernel
theorem d_M_sheet_42 : dI prog_8_method_74_code 42 (.invokevirtual 61) 3 45 := by decide +kernel
theorem d_M_sheet_45 : decode prog_8_method_74_code 45 = .ok (.ireturn, 1) := by decide +kernel
theorem d_M_sheet_46 : dI prog_8_method_74_code 46 (.iload_n 3) 1 47 := by decide +kernel
theorem d_M_sheet_47 : dI prog_8_method_74_code 47 (.bipush 40) 2 49 ∧ (Int8.ofInt 40).toInt32 = 40 := by decide +kernel
theorem d_M_sheet_49 : dJ prog_8_method_74_code 49 (.if_icmp .le 9) 9 52 58 := by decide +kernel
theorem d_M_sheet_52 : dI prog_8_method_74_code 52 (.aload_n 0) 1 53 := by decide +kernel
theorem d_M_sheet_53 : dI prog_8_method_74_code 53 (.iconst 0) 1 54 ∧ Int32.ofInt 0 = 0 := by decide +kernel
theorem d_M_sheet_54 : dI prog_8_method_74_code 54 (.invokevirtual 61) 3 57 := by decide +kernel
theorem d_M_sheet_57 : decode prog_8_method_74_code 57 = .ok (.ireturn, 1) := by decide +kernel
theorem d_M_sheet_58 : dI prog_8_method_74_code 58 (.aload_n 0) 1 59 := by decide +kernel
theorem d_M_sheet_59 : dI prog_8_method_74_code 59 (.getfield 28) 3 62 := by decide +kernel
theorem d_M_sheet_62 : dI prog_8_method_74_code 62 (.iload_n 1) 1 63 := by decide +kernel
theorem d_M_sheet_63 : dI prog_8_method_74_code 63 (.iload_n 2) 1 64 := by decide +kernel
theorem d_M_sheet_64 : dI prog_8_method_74_code 64 .iastore 1 65 := by decide +kernel
theorem d_M_sheet_65 : dI prog_8_method_74_code 65 (.aload_n 0) 1 66 := by decide +kernel
theorem d_M_sheet_66 : dI prog_8_method_74_code 66 (.getfield 31) 3 69 := by decide +kernel
theorem d_M_sheet_69 : dI prog_8_method_74_code 69 (.iload_n 1) 1 70 := by decide +kernel
theorem d_M_sheet_70 : dI prog_8_method_74_code 70 (.iload_n 2) 1 71 := by decide +kernel
theorem d_M_sheet_71 : dJ prog_8_method_74_code 71 (.ifCond .ne 7) 7 74 78 := by decide +kernel
theorem d_M_sheet_74 : dI prog_8_method_74_code 74 (.iconst 0) 1 75 ∧ Int32.ofInt 0 = 0 := by decide +kernel
theorem d_M_sheet_75 : dJ prog_8_method_74_code 75 (.goto 4) 4 78 79 := by decide +kernel
theorem d_M_sheet_78 : dI prog_8_method_74_code 78 (.iload_n 3) 1 79 := by decide +kernel
theorem d_M_sheet_79 : dI prog_8_method_74_code 79 .iastore 1 80 := by decide +kernel
theorem d_M_sheet_80 : dI prog_8_method_74_code 80 (.iconst 0) 1 81 ∧ Int32.ofInt 0 = 0 := by decide +kernel
theorem d_M_sheet_81 : dI prog_8_method_74_code 81 (.istore 4) 2 83 := by decide +kernel
theorem d_M_sheet_83 : dI prog_8_method_74_code 83 (.iload 4) 2 85 := by decide +kernel
theorem d_M_sheet_85 : dI prog_8_method_74_code 85 (.bipush 40) 2 87 ∧ (Int8.ofInt 40).toInt32 = 40 := by decide +kernel
theorem d_M_sheet_87 : dJ prog_8_method_74_code 87 (.if_icmp .ge 22) 22 90 109 := by decide +kernel
theorem d_M_sheet_90 : dI prog_8_method_74_code 90 (.aload_n 0) 1 91 := by decide +kernel
theorem d_M_sheet_91 : dI prog_8_method_74_code 91 (.getfield 34) 3 94 := by decide +kernel
theorem d_M_sheet_94 : dI prog_8_method_74_code 94 (.bipush 40) 2 96 ∧ (Int8.ofInt 40).toInt32 = 40 := by decide +kernel
theorem d_M_sheet_96 : dI prog_8_method_74_code 96 (.iload_n 1) 1 97 := by decide +kernel
theorem d_M_sheet_97 : dI prog_8_method_74_code 97 .imul 1 98 := by decide +kernel
theorem d_M_sheet_98 : dI prog_8_method_74_code 98 (.iload 4) 2 100 := by decide +kernel
theorem d_M_sheet_100 : dI prog_8_method_74_code 100 .iadd 1 101 := by decide +kernel
theorem d_M_sheet_101 : dI prog_8_method_74_code 101 (.iconst 0) 1 102 ∧ Int32.ofInt 0 = 0 := by decide +kernel
theorem d_M_sheet_102 : dI prog_8_method_74_code 102 .iastore 1 103 := by decide +kernel
theorem d_M_sheet_103 : dI prog_8_method_74_code 103 (.iinc 4 1) 3 106 ∧ Int32.ofInt 1 = 1 := by decide +kernel
theorem d_M_sheet_106 : dJ prog_8_method_74_code 106 (.goto (-23)) (-23) 109 83 := by decide +kernel
theorem d_M_sheet_109 : dI prog_8_method_74_code 109 (.aload_n 0) 1 110 := by decide +kernel
theorem d_M_sheet_110 : dI prog_8_method_74_code 110 (.getfield 31) 3 113 := by decide +kernel
theorem d_M_sheet_113 : dI prog_8_method_74_code 113 (.iload_n 1) 1 114 := by decide +kernel
theorem d_M_sheet_114 : dI prog_8_method_74_code 114 .iaload 1 115 := by decide +kernel
theorem d_M_sheet_115 : decode prog_8_method_74_code 115 = .ok (.ireturn, 1) := by decide +kernel
theorem d_M_write_0 : dI prog_8_method_75_code 0 (.iload_n 1) 1 1 := by decide +kernel
theorem d_M_write_1 : dI prog_8_method_75_code 1 (.invokestatic 230) 3 4 := by decide +kernel
theorem d_M_write_4 : dJ prog_8_method_75_code 4 (.ifCond .ne 9) 9 7 13 := by decide +kernel
theorem d_M_write_7 : dI prog_8_method_75_code 7 (.aload_n 0) 1 8 := by decide +kernel
theorem d_M_write_8 : dI prog_8_method_75_code 8 (.iconst 0) 1 9 ∧ Int32.ofInt 0 = 0 := by decide +kernel
theorem d_M_write_9 : dI prog_8_method_75_code 9 (.invokevirtual 61) 3 12 := by decide +kernel
theorem d_M_write_12 : decode prog_8_method_75_code 12 = .ok (.ireturn, 1) := by decide +kernel
theorem d_M_write_13 : dI prog_8_method_75_code 13 (.aload_n 0) 1 14 := by decide +kernel
theorem d_M_write_14 : dI prog_8_method_75_code 14 (.getfield 28) 3 17 := by decide +kernel
theorem d_M_write_17 : dI prog_8_method_75_code 17 (.iload_n 1) 1 18 := by decide +kernel
theorem d_M_write_18 : dI prog_8_method_75_code 18 .iaload 1 19 := by decide +kernel
theorem d_M_write_19 : dJ prog_8_method_75_code 19 (.ifCond .ne 9) 9 22 28 := by decide +kernel
theorem d_M_write_22 : dI prog_8_method_75_code 22 (.aload_n 0) 1 23 := by decide +kernel
theorem d_M_write_23 : dI prog_8_method_75_code 23 (.iconst 5) 1 24 ∧ Int32.ofInt 5 = 5 := by decide +kernel
theorem d_M_write_24 : dI prog_8_method_75_code 24 (.invokevirtual 61) 3 27 := by decide +kernel
theorem d_M_write_27 : decode prog_8_method_75_code 27 = .ok (.ireturn, 1) := by decide +kernel
theorem d_M_write_28 : dI prog_8_method_75_code 28 (.iload_n 2) 1 29 := by decide +kernel
theorem d_M_write_29 : dI prog_8_method_75_code 29 (.iconst 0) 1 30 ∧ Int32.ofInt 0 = 0 := by decide +kernel
theorem d_M_write_30 : dI prog_8_method_75_code 30 (.aload_n 0) 1 31 := by decide +kernel
theorem d_M_write_31 : dI prog_8_method_75_code 31 (.getfield 31) 3 34 := by decide +kernel
theorem d_M_write_34 : dI prog_8_method_75_code 34 (.iload_n 1) 1 35 := by decide +kernel
theorem d_M_write_35 : dI prog_8_method_75_code 35 .iaload 1 36 := by decide +kernel
theorem d_M_write_36 : dI prog_8_method_75_code 36 (.iconst 1) 1 37 ∧ Int32.ofInt 1 = 1 := by decide +kernel
theorem d_M_write_37 : dI prog_8_method_75_code 37 .isub 1 38 := by decide +kernel
theorem d_M_write_38 : dI prog_8_method_75_code 38 (.invokestatic 45) 3 41 := by decide +kernel
theorem d_M_write_41 : dJ prog_8_method_75_code 41 (.ifCond .ne 9) 9 44 50 := by decide +kernel
theorem d_M_write_44 : dI prog_8_method_75_code 44 (.aload_n 0) 1 45 := by decide +kernel
theorem d_M_write_45 : dI prog_8_method_75_code 45 (.iconst 0) 1 46 ∧ Int32.ofInt 0 = 0 := by decide +kernel
theorem d_M_write_46 : dI prog_8_method_75_code 46 (.invokevirtual 61) 3 49 := by decide +kernel
theorem d_M_write_49 : decode prog_8_method_75_code 49 = .ok (.ireturn, 1) := by decide +kernel
theorem d_M_write_50 : dI prog_8_method_75_code 50 (.bipush 32) 2 52 ∧ (Int8.ofInt 32).toInt32 = 32 := by decide +kernel
theorem d_M_write_52 : dI prog_8_method_75_code 52 (.aload_n 0) 1 53 := by decide +kernel
theorem d_M_write_53 : dI prog_8_method_75_code 53 (.getfield 28) 3 56 := by decide +kernel
theorem d_M_write_56 : dI prog_8_method_75_code 56 (.iload_n 1) 1 57 := by decide +kernel
theorem d_M_write_57 : dI prog_8_method_75_code 57 .iaload 1 58 := by decide +kernel
theorem d_M_write_58 : dI prog_8_method_75_code 58 .isub 1 59 := by decide +kernel
theorem d_M_write_59 : dI prog_8_method_75_code 59 (.istore 4) 2 61 := by decide +kernel
theorem d_M_write_61 : dI prog_8_method_75_code 61 (.aload_n 0) 1 62 := by decide +kernel
theorem d_M_write_62 : dI prog_8_method_75_code 62 (.getfield 34) 3 65 := by decide +kernel
theorem d_M_write_65 : dI prog_8_method_75_code 65 (.bipush 40) 2 67 ∧ (Int8.ofInt 40).toInt32 = 40 := by decide +kernel
theorem d_M_write_67 : dI prog_8_method_75_code 67 (.iload_n 1) 1 68 := by decide +kernel
theorem d_M_write_68 : dI prog_8_method_75_code 68 .imul 1 69 := by decide +kernel
theorem d_M_write_69 : dI prog_8_method_75_code 69 (.iload_n 2) 1 70 := by decide +kernel
theorem d_M_write_70 : dI prog_8_method_75_code 70 .iadd 1 71 := by decide +kernel
theorem d_M_write_71 : dI prog_8_method_75_code 71 (.iload_n 3) 1 72 := by decide +kernel
theorem d_M_write_72 : dI prog_8_method_75_code 72 (.iload 4) 2 74 := by decide +kernel
theorem d_M_write_74 : dI prog_8_method_75_code 74 .ishl 1 75 := by decide +kernel
theorem d_M_write_75 : dI prog_8_method_75_code 75 (.iload 4) 2 77 := by decide +kernel
theorem d_M_write_77 : dI prog_8_method_75_code 77 .ishr 1 78 := by decide +kernel
theorem d_M_write_78 : dI prog_8_method_75_code 78 .iastore 1 79 := by decide +kernel
theorem d_M_write_79 : dI prog_8_method_75_code 79 (.iconst 1) 1 80 ∧ Int32.ofInt 1 = 1 := by decide +kernel
theorem d_M_write_80 : decode prog_8_method_75_code 80 = .ok (.ireturn, 1) := by decide +kernel
theorem d_M_copy_0 : dI prog_8_method_76_code 0 (.iload_n 1) 1 1 := by decide +kernel
theorem d_M_copy_1 : dI prog_8_method_76_code 1 (.invokestatic 230) 3 4 := by decide +kernel
theorem d_M_copy_4 : dJ prog_8_method_76_code 4 (.ifCond .eq 10) 10 7 14 := by decide +kernel
theorem d_M_copy_7 : dI prog_8_method_76_code 7 (.iload_n 3) 1 8 := by decide +kernel
theorem d_M_copy_8 : dI prog_8_method_76_code 8 (.invokestatic 230) 3 11 := by decide +kernel
theorem d_M_copy_11 : dJ prog_8_method_76_code 11 (.ifCond .ne 9) 9 14 20 := by decide +kernel
theorem d_M_copy_14 : dI prog_8_method_76_code 14 (.aload_n 0) 1 15 := by decide +kernel
theorem d_M_copy_15 : dI prog_8_method_76_code 15 (.iconst 0) 1 16 ∧ Int32.ofInt 0 = 0 := by decide +kernel
theorem d_M_copy_16 : dI prog_8_method_76_code 16 (.invokevirtual 61) 3 19 := by decide +kernel
theorem d_M_copy_19 : decode prog_8_method_76_code 19 = .ok (.ireturn, 1) := by decide +kernel
theorem d_M_copy_20 : dI prog_8_method_76_code 20 (.aload_n 0) 1 21 := by decide +kernel
theorem d_M_copy_21 : dI prog_8_method_76_code 21 (.getfield 28) 3 24 := by decide +kernel
theorem d_M_copy_24 : dI prog_8_method_76_code 24 (.iload_n 1) 1 25 := by decide +kernel
theorem d_M_copy_25 : dI prog_8_method_76_code 25 .iaload 1 26 := by decide +kernel
theorem d_M_copy_26 : dJ prog_8_method_76_code 26 (.ifCond .eq 12) 12 29 38 := by decide +kernel
theorem d_M_copy_29 : dI prog_8_method_76_code 29 (.aload_n 0) 1 30 := by decide +kernel
theorem d_M_copy_30 : dI prog_8_method_76_code 30 (.getfield 28) 3 33 := by decide +kernel
theorem d_M_copy_33 : dI prog_8_method_76_code 33 (.iload_n 3) 1 34 := by decide +kernel
theorem d_M_copy_34 : dI prog_8_method_76_code 34 .iaload 1 35 := by decide +kernel
theorem d_M_copy_35 : dJ prog_8_method_76_code 35 (.ifCond .ne 9) 9 38 44 := by decide +kernel
theorem d_M_copy_38 : dI prog_8_method_76_code 38 (.aload_n 0) 1 39 := by decide +kernel
theorem d_M_copy_39 : dI prog_8_method_76_code 39 (.iconst 5) 1 40 ∧ Int32.ofInt 5 = 5 := by decide +kernel
theorem d_M_copy_40 : dI prog_8_method_76_code 40 (.invokevirtual 61) 3 43 := by decide +kernel
theorem d_M_copy_43 : decode prog_8_method_76_code 43 = .ok (.ireturn, 1) := by decide +kernel
theorem d_M_copy_44 : dI prog_8_method_76_code 44 (.aload_n 0) 1 45 := by decide +kernel
theorem d_M_copy_45 : dI prog_8_method_76_code 45 (.getfield 28) 3 48 := by decide +kernel
theorem d_M_copy_48 : dI prog_8_method_76_code 48 (.iload_n 1) 1 49 := by decide +kernel
theorem d_M_copy_49 : dI prog_8_method_76_code 49 .iaload 1 50 := by decide +kernel
theorem d_M_copy_50 : dI prog_8_method_76_code 50 (.aload_n 0) 1 51 := by decide +kernel
theorem d_M_copy_51 : dI prog_8_method_76_code 51 (.getfield 28) 3 54 := by decide +kernel
theorem d_M_copy_54 : dI prog_8_method_76_code 54 (.iload_n 3) 1 55 := by decide +kernel
theorem d_M_copy_55 : dI prog_8_method_76_code 55 .iaload 1 56 := by decide +kernel
theorem d_M_copy_56 : dJ prog_8_method_76_code 56 (.if_icmp .eq 9) 9 59 65 := by decide +kernel
theorem d_M_copy_59 : dI prog_8_method_76_code 59 (.aload_n 0) 1 60 := by decide +kernel
theorem d_M_copy_60 : dI prog_8_method_76_code 60 (.iconst 2) 1 61 ∧ Int32.ofInt 2 = 2 := by decide +kernel
theorem d_M_copy_61 : dI prog_8_method_76_code 61 (.invokevirtual 61) 3 64 := by decide +kernel
theorem d_M_copy_64 : decode prog_8_method_76_code 64 = .ok (.ireturn, 1) := by decide +kernel
theorem d_M_copy_65 : dI prog_8_method_76_code 65 (.iload_n 2) 1 66 := by decide +kernel
theorem d_M_copy_66 : dJ prog_8_method_76_code 66 (.ifCond .lt 40) 40 69 106 := by decide +kernel
theorem d_M_copy_69 : dI prog_8_method_76_code 69 (.iload 4) 2 71 := by decide +kernel
theorem d_M_copy_71 : dJ prog_8_method_76_code 71 (.ifCond .lt 35) 35 74 106 := by decide +kernel
theorem d_M_copy_74 : dI prog_8_method_76_code 74 (.iload 5) 2 76 := by decide +kernel
theorem d_M_copy_76 : dJ prog_8_method_76_code 76 (.ifCond .lt 30) 30 79 106 := by decide +kernel
theorem d_M_copy_79 : dI prog_8_method_76_code 79 (.iload_n 2) 1 80 := by decide +kernel
theorem d_M_copy_80 : dI prog_8_method_76_code 80 (.aload_n 0) 1 81 := by decide +kernel
theorem d_M_copy_81 : dI prog_8_method_76_code 81 (.getfield 31) 3 84 := by decide +kernel
theorem d_M_copy_84 : dI prog_8_method_76_code 84 (.iload_n 1) 1 85 := by decide +kernel
theorem d_M_copy_85 : dI prog_8_method_76_code 85 .iaload 1 86 := by decide +kernel
theorem d_M_copy_86 : dI prog_8_method_76_code 86 (.iload 5) 2 88 := by decide +kernel
theorem d_M_copy_88 : dI prog_8_method_76_code 88 .isub 1 89 := by decide +kernel
theorem d_M_copy_89 : dJ prog_8_method_76_code 89 (.if_icmp .gt 17) 17 92 106 := by decide +kernel
theorem d_M_copy_92 : dI prog_8_method_76_code 92 (.iload 4) 2 94 := by decide +kernel
theorem d_M_copy_94 : dI prog_8_method_76_code 94 (.aload_n 0) 1 95 := by decide +kernel
theorem d_M_copy_95 : dI prog_8_method_76_code 95 (.getfield 31) 3 98 := by decide +kernel
theorem d_M_copy_98 : dI prog_8_method_76_code 98 (.iload_n 3) 1 99 := by decide +kernel
theorem d_M_copy_99 : dI prog_8_method_76_code 99 .iaload 1 100 := by decide +kernel
theorem d_M_copy_100 : dI prog_8_method_76_code 100 (.iload 5) 2 102 := by decide +kernel
theorem d_M_copy_102 : dI prog_8_method_76_code 102 .isub 1 103 := by decide +kernel
theorem d_M_copy_103 : dJ prog_8_method_76_code 103 (.if_icmp .le 9) 9 106 112 := by decide +kernel
theorem d_M_copy_106 : dI prog_8_method_76_code 106 (.aload_n 0) 1 107 := by decide +kernel
theorem d_M_copy_107 : dI prog_8_method_76_code 107 (.iconst 0) 1 108 ∧ Int32.ofInt 0 = 0 := by decide +kernel
theorem d_M_copy_108 : dI prog_8_method_76_code 108 (.invokevirtual 61) 3 111 := by decide +kernel
theorem d_M_copy_111 : decode prog_8_method_76_code 111 = .ok (.ireturn, 1) := by decide +kernel
theorem d_M_copy_112 : dI prog_8_method_76_code 112 (.iconst 0) 1 113 ∧ Int32.ofInt 0 = 0 := by decide +kernel
theorem d_M_copy_113 : dI prog_8_method_76_code 113 (.istore 6) 2 115 := by decide +kernel
theorem d_M_copy_115 : dI prog_8_method_76_code 115 (.iload 6) 2 117 := by decide +kernel
theorem d_M_copy_117 : dI prog_8_method_76_code 117 (.iload 5) 2 119 := by decide +kernel
theorem d_M_copy_119 : dJ prog_8_method_76_code 119 (.if_icmp .ge 30) 30 122 149 := by decide +kernel
theorem d_M_copy_122 : dI prog_8_method_76_code 122 (.aload_n 0) 1 123 := by decide +kernel
theorem d_M_copy_123 : dI prog_8_method_76_code 123 (.getfield 37) 3 126 := by decide +kernel
theorem d_M_copy_126 : dI prog_8_method_76_code 126 (.iload 6) 2 128 := by decide +kernel
theorem d_M_copy_128 : dI prog_8_method_76_code 128 (.aload_n 0) 1 129 := by decide +kernel
theorem d_M_copy_129 : dI prog_8_method_76_code 129 (.getfield 34) 3 132 := by decide +kernel
theorem d_M_copy_132 : dI prog_8_method_76_code 132 (.bipush 40) 2 134 ∧ (Int8.ofInt 40).toInt32 = 40 := by decide +kernel
theorem d_M_copy_134 : dI prog_8_method_76_code 134 (.iload_n 1) 1 135 := by decide +kernel
theorem d_M_copy_135 : dI prog_8_method_76_code 135 .imul 1 136 := by decide +kernel
theorem d_M_copy_136 : dI prog_8_method_76_code 136 (.iload_n 2) 1 137 := by decide +kernel
theorem d_M_copy_137 : dI prog_8_method_76_code 137 .iadd 1 138 := by decide +kernel
theorem d_M_copy_138 : dI prog_8_method_76_code 138 (.iload 6) 2 140 := by decide +kernel
theorem d_M_copy_140 : dI prog_8_method_76_code 140 .iadd 1 141 := by decide +kernel
theorem d_M_copy_141 : dI prog_8_method_76_code 141 .iaload 1 142 := by decide +kernel
theorem d_M_copy_142 : dI prog_8_method_76_code 142 .iastore 1 143 := by decide +kernel
theorem d_M_copy_143 : dI prog_8_method_76_code 143 (.iinc 6 1) 3 146 ∧ Int32.ofInt 1 = 1 := by decide +kernel
theorem d_M_copy_146 : dJ prog_8_method_76_code 146 (.goto (-31)) (-31) 149 115 := by decide +kernel
theorem d_M_copy_149 : dI prog_8_method_76_code 149 (.iconst 0) 1 150 ∧ Int32.ofInt 0 = 0 := by decide +kernel
theorem d_M_copy_150 : dI prog_8_method_76_code 150 (.istore 6) 2 152 := by decide +kernel
theorem d_M_copy_152 : dI prog_8_method_76_code 152 (.iload 6) 2 154 := by decide +kernel
theorem d_M_copy_154 : dI prog_8_method_76_code 154 (.iload 5) 2 156 := by decide +kernel
theorem d_M_copy_156 : dJ prog_8_method_76_code 156 (.if_icmp .ge 31) 31 159 187 := by decide +kernel
theorem d_M_copy_159 : dI prog_8_method_76_code 159 (.aload_n 0) 1 160 := by decide +kernel
theorem d_M_copy_160 : dI prog_8_method_76_code 160 (.getfield 34) 3 163 := by decide +kernel
theorem d_M_copy_163 : dI prog_8_method_76_code 163 (.bipush 40) 2 165 ∧ (Int8.ofInt 40).toInt32 = 40 := by decide +kernel
theorem d_M_copy_165 : dI prog_8_method_76_code 165 (.iload_n 3) 1 166 := by decide +kernel
theorem d_M_copy_166 : dI prog_8_method_76_code 166 .imul 1 167 := by decide +kernel
theorem d_M_copy_167 : dI prog_8_method_76_code 167 (.iload 4) 2 169 := by decide +kernel
theorem d_M_copy_169 : dI prog_8_method_76_code 169 .iadd 1 170 := by decide +kernel
theorem d_M_copy_170 : dI prog_8_method_76_code 170 (.iload 6) 2 172 := by decide +kernel
theorem d_M_copy_172 : dI prog_8_method_76_code 172 .iadd 1 173 := by decide +kernel
theorem d_M_copy_173 : dI prog_8_method_76_code 173 (.aload_n 0) 1 174 := by decide +kernel
theorem d_M_copy_174 : dI prog_8_method_76_code 174 (.getfield 37) 3 177 := by decide +kernel
theorem d_M_copy_177 : dI prog_8_method_76_code 177 (.iload 6) 2 179 := by decide +kernel
theorem d_M_copy_179 : dI prog_8_method_76_code 179 .iaload 1 180 := by decide +kernel
theorem d_M_copy_180 : dI prog_8_method_76_code 180 .iastore 1 181 := by decide +kernel
theorem d_M_copy_181 : dI prog_8_method_76_code 181 (.iinc 6 1) 3 184 ∧ Int32.ofInt 1 = 1 := by decide +kernel
theorem d_M_copy_184 : dJ prog_8_method_76_code 184 (.goto (-32)) (-32) 187 152 := by decide +kernel
theorem d_M_copy_187 : dI prog_8_method_76_code 187 (.iload 5) 2 189 := by decide +kernel
theorem d_M_copy_189 : decode prog_8_method_76_code 189 = .ok (.ireturn, 1) := by decide +kernel
theorem d_M_lacks_0 : dI prog_8_method_77_code 0 (.iload_n 1) 1 1 := by decide +kernel
theorem d_M_lacks_1 : dI prog_8_method_77_code 1 (.invokestatic 230) 3 4 := by decide +kernel
theorem d_M_lacks_4 : dJ prog_8_method_77_code 4 (.ifCond .ne 7) 7 7 11 := by decide +kernel
theorem d_M_lacks_7 : dI prog_8_method_77_code 7 (.iconst 0) 1 8 ∧ Int32.ofInt 0 = 0 := by decide +kernel
theorem d_M_lacks_8 : dJ prog_8_method_77_code 8 (.goto 17) 17 11 25 := by decide +kernel
theorem d_M_lacks_11 : dI prog_8_method_77_code 11 (.aload_n 0) 1 12 := by decide +kernel
theorem d_M_lacks_12 : dI prog_8_method_77_code 12 (.getfield 28) 3 15 := by decide +kernel
theorem d_M_lacks_15 : dI prog_8_method_77_code 15 (.iload_n 1) 1 16 := by decide +kernel
theorem d_M_lacks_16 : dI prog_8_method_77_code 16 .iaload 1 17 := by decide +kernel
theorem d_M_lacks_17 : dJ prog_8_method_77_code 17 (.ifCond .ne 7) 7 20 24 := by decide +kernel
theorem d_M_lacks_20 : dI prog_8_method_77_code 20 (.iconst 5) 1 21 ∧ Int32.ofInt 5 = 5 := by decide +kernel
theorem d_M_lacks_21 : dJ prog_8_method_77_code 21 (.goto 4) 4 24 25 := by decide +kernel
theorem d_M_lacks_24 : dI prog_8_method_77_code 24 (.iconst (-1)) 1 25 ∧ Int32.ofInt (-1) = (-1) := by decide +kernel
theorem d_M_lacks_25 : decode prog_8_method_77_code 25 = .ok (.ireturn, 1) := by decide +kernel
theorem d_M_load_0 : dI prog_8_method_78_code 0 (.aload_n 0) 1 1 := by decide +kernel
theorem d_M_load_1 : dI prog_8_method_78_code 1 (.iload_n 1) 1 2 := by decide +kernel
theorem d_M_load_2 : dI prog_8_method_78_code 2 (.invokevirtual 233) 3 5 := by decide +kernel
theorem d_M_load_5 : dI prog_8_method_78_code 5 (.istore_n 3) 1 6 := by decide +kernel
theorem d_M_load_6 : dI prog_8_method_78_code 6 (.iload_n 3) 1 7 := by decide +kernel
theorem d_M_load_7 : dJ prog_8_method_78_code 7 (.ifCond .lt 9) 9 10 16 := by decide +kernel
theorem d_M_load_10 : dI prog_8_method_78_code 10 (.aload_n 0) 1 11 := by decide +kernel
theorem d_M_load_11 : dI prog_8_method_78_code 11 (.iload_n 3) 1 12 := by decide +kernel
theorem d_M_load_12 : dI prog_8_method_78_code 12 (.invokevirtual 61) 3 15 := by decide +kernel
theorem d_M_load_15 : decode prog_8_method_78_code 15 = .ok (.ireturn, 1) := by decide +kernel
theorem d_M_load_16 : dI prog_8_method_78_code 16 (.iload_n 2) 1 17 := by decide +kernel
theorem d_M_load_17 : dI prog_8_method_78_code 17 (.invokestatic 49) 3 20 := by decide +kernel
theorem d_M_load_20 : dJ prog_8_method_78_code 20 (.ifCond .ne 9) 9 23 29 := by decide +kernel
theorem d_M_load_23 : dI prog_8_method_78_code 23 (.aload_n 0) 1 24 := by decide +kernel
theorem d_M_load_24 : dI prog_8_method_78_code 24 (.iconst 0) 1 25 ∧ Int32.ofInt 0 = 0 := by decide +kernel
theorem d_M_load_25 : dI prog_8_method_78_code 25 (.invokevirtual 61) 3 28 := by decide +kernel
theorem d_M_load_28 : decode prog_8_method_78_code 28 = .ok (.ireturn, 1) := by decide +kernel
theorem d_M_load_29 : dI prog_8_method_78_code 29 (.iconst 0) 1 30 ∧ Int32.ofInt 0 = 0 := by decide +kernel
theorem d_M_load_30 : dI prog_8_method_78_code 30 (.istore 4) 2 32 := by decide +kernel
theorem d_M_load_32 : dI prog_8_method_78_code 32 (.iload 4) 2 34 := by decide +kernel
theorem d_M_load_34 : dI prog_8_method_78_code 34 (.aload_n 0) 1 35 := by decide +kernel
theorem d_M_load_35 : dI prog_8_method_78_code 35 (.getfield 31) 3 38 := by decide +kernel
theorem d_M_load_38 : dI prog_8_method_78_code 38 (.iload_n 1) 1 39 := by decide +kernel
theorem d_M_load_39 : dI prog_8_method_78_code 39 .iaload 1 40 := by decide +kernel
theorem d_M_load_40 : dJ prog_8_method_78_code 40 (.if_icmp .ge 64) 64 43 104 := by decide +kernel
theorem d_M_load_43 : dI prog_8_method_78_code 43 (.iload_n 2) 1 44 := by decide +kernel
theorem d_M_load_44 : dI prog_8_method_78_code 44 (.iload 4) 2 46 := by decide +kernel
theorem d_M_load_46 : dI prog_8_method_78_code 46 .iadd 1 47 := by decide +kernel
theorem d_M_load_47 : dI prog_8_method_78_code 47 (.invokestatic 49) 3 50 := by decide +kernel
theorem d_M_load_50 : dJ prog_8_method_78_code 50 (.ifCond .eq 54) 54 53 104 := by decide +kernel
theorem d_M_load_53 : dI prog_8_method_78_code 53 (.aload_n 0) 1 54 := by decide +kernel
theorem d_M_load_54 : dI prog_8_method_78_code 54 (.getfield 34) 3 57 := by decide +kernel
theorem d_M_load_57 : dI prog_8_method_78_code 57 (.bipush 40) 2 59 ∧ (Int8.ofInt 40).toInt32 = 40 := by decide +kernel
theorem d_M_load_59 : dI prog_8_method_78_code 59 (.iload_n 1) 1 60 := by decide +kernel
theorem d_M_load_60 : dI prog_8_method_78_code 60 .imul 1 61 := by decide +kernel
theorem d_M_load_61 : dI prog_8_method_78_code 61 (.iload 4) 2 63 := by decide +kernel
theorem d_M_load_63 : dI prog_8_method_78_code 63 .iadd 1 64 := by decide +kernel
theorem d_M_load_64 : dI prog_8_method_78_code 64 .iaload 1 65 := by decide +kernel
theorem d_M_load_65 : dI prog_8_method_78_code 65 (.iconst 0) 1 66 ∧ Int32.ofInt 0 = 0 := by decide +kernel
theorem d_M_load_66 : dI prog_8_method_78_code 66 (.bipush 99) 2 68 ∧ (Int8.ofInt 99).toInt32 = 99 := by decide +kernel
theorem d_M_load_68 : dI prog_8_method_78_code 68 (.invokestatic 45) 3 71 := by decide +kernel
theorem d_M_load_71 : dJ prog_8_method_78_code 71 (.ifCond .eq 33) 33 74 104 := by decide +kernel
theorem d_M_load_74 : dI prog_8_method_78_code 74 (.aload_n 0) 1 75 := by decide +kernel
theorem d_M_load_75 : dI prog_8_method_78_code 75 (.getfield 7) 3 78 := by decide +kernel
theorem d_M_load_78 : dI prog_8_method_78_code 78 (.bipush 12) 2 80 ∧ (Int8.ofInt 12).toInt32 = 12 := by decide +kernel
theorem d_M_load_80 : dI prog_8_method_78_code 80 (.iload_n 2) 1 81 := by decide +kernel
theorem d_M_load_81 : dI prog_8_method_78_code 81 .iadd 1 82 := by decide +kernel
theorem d_M_load_82 : dI prog_8_method_78_code 82 (.iload 4) 2 84 := by decide +kernel
theorem d_M_load_84 : dI prog_8_method_78_code 84 .iadd 1 85 := by decide +kernel
theorem d_M_load_85 : dI prog_8_method_78_code 85 (.aload_n 0) 1 86 := by decide +kernel
theorem d_M_load_86 : dI prog_8_method_78_code 86 (.getfield 34) 3 89 := by decide +kernel
theorem d_M_load_89 : dI prog_8_method_78_code 89 (.bipush 40) 2 91 ∧ (Int8.ofInt 40).toInt32 = 40 := by decide +kernel
theorem d_M_load_91 : dI prog_8_method_78_code 91 (.iload_n 1) 1 92 := by decide +kernel
theorem d_M_load_92 : dI prog_8_method_78_code 92 .imul 1 93 := by decide +kernel
theorem d_M_load_93 : dI prog_8_method_78_code 93 (.iload 4) 2 95 := by decide +kernel
theorem d_M_load_95 : dI prog_8_method_78_code 95 .iadd 1 96 := by decide +kernel
theorem d_M_load_96 : dI prog_8_method_78_code 96 .iaload 1 97 := by decide +kernel
theorem d_M_load_97 : dI prog_8_method_78_code 97 .iastore 1 98 := by decide +kernel
theorem d_M_load_98 : dI prog_8_method_78_code 98 (.iinc 4 1) 3 101 ∧ Int32.ofInt 1 = 1 := by decide +kernel
theorem d_M_load_101 : dJ prog_8_method_78_code 101 (.goto (-69)) (-69) 104 32 := by decide +kernel
theorem d_M_load_104 : dI prog_8_method_78_code 104 (.iload 4) 2 106 := by decide +kernel
theorem d_M_load_106 : decode prog_8_method_78_code 106 = .ok (.ireturn, 1) := by decide +kernel
theorem d_M_judge_0 : dI prog_8_method_79_code 0 (.aload_n 0) 1 1 := by decide +kernel
theorem d_M_judge_1 : dI prog_8_method_79_code 1 (.iload_n 1) 1 2 := by decide +kernel
theorem d_M_judge_2 : dI prog_8_method_79_code 2 (.invokevirtual 233) 3 5 := by decide +kernel
theorem d_M_judge_5 : dI prog_8_method_79_code 5 (.istore_n 2) 1 6 := by decide +kernel
theorem d_M_judge_6 : dI prog_8_method_79_code 6 (.iload_n 2) 1 7 := by decide +kernel
theorem d_M_judge_7 : dJ prog_8_method_79_code 7 (.ifCond .lt 9) 9 10 16 := by decide +kernel
theorem d_M_judge_10 : dI prog_8_method_79_code 10 (.aload_n 0) 1 11 := by decide +kernel
theorem d_M_judge_11 : dI prog_8_method_79_code 11 (.iload_n 2) 1 12 := by decide +kernel
theorem d_M_judge_12 : dI prog_8_method_79_code 12 (.invokevirtual 61) 3 15 := by decide +kernel
theorem d_M_judge_15 : decode prog_8_method_79_code 15 = .ok (.ireturn, 1) := by decide +kernel
theorem d_M_judge_16 : dI prog_8_method_79_code 16 (.aload_n 0) 1 17 := by decide +kernel
theorem d_M_judge_17 : dI prog_8_method_79_code 17 (.invokevirtual 124) 3 20 := by decide +kernel
theorem d_M_judge_20 : dI prog_8_method_79_code 20 (.iconst 0) 1 21 ∧ Int32.ofInt 0 = 0 := by decide +kernel
theorem d_M_judge_21 : dI prog_8_method_79_code 21 (.istore_n 3) 1 22 := by decide +kernel
theorem d_M_judge_22 : dI prog_8_method_79_code 22 (.iconst 1) 1 23 ∧ Int32.ofInt 1 = 1 := by decide +kernel
theorem d_M_judge_23 : dI prog_8_method_79_code 23 (.istore 4) 2 25 := by decide +kernel
theorem d_M_judge_25 : dI prog_8_method_79_code 25 (.iload_n 3) 1 26 := by decide +kernel
theorem d_M_judge_26 : dI prog_8_method_79_code 26 (.aload_n 0) 1 27 := by decide +kernel
theorem d_M_judge_27 : dI prog_8_method_79_code 27 (.getfield 31) 3 30 := by decide +kernel
theorem d_M_judge_30 : dI prog_8_method_79_code 30 (.iload_n 1) 1 31 := by decide +kernel
theorem d_M_judge_31 : dI prog_8_method_79_code 31 .iaload 1 32 := by decide +kernel
theorem d_M_judge_32 : dJ prog_8_method_79_code 32 (.if_icmp .ge 103) 103 35 135 := by decide +kernel
theorem d_M_judge_35 : dI prog_8_method_79_code 35 (.iload 4) 2 37 := by decide +kernel
theorem d_M_judge_37 : dJ prog_8_method_79_code 37 (.ifCond .eq 98) 98 40 135 := by decide +kernel
theorem d_M_judge_40 : dI prog_8_method_79_code 40 (.iload_n 3) 1 41 := by decide +kernel
theorem d_M_judge_41 : dI prog_8_method_79_code 41 (.aload_n 0) 1 42 := by decide +kernel
theorem d_M_judge_42 : dI prog_8_method_79_code 42 (.getfield 7) 3 45 := by decide +kernel
theorem d_M_judge_45 : dI prog_8_method_79_code 45 (.bipush 11) 2 47 ∧ (Int8.ofInt 11).toInt32 = 11 := by decide +kernel
theorem d_M_judge_47 : dI prog_8_method_79_code 47 .iaload 1 48 := by decide +kernel
theorem d_M_judge_48 : dJ prog_8_method_79_code 48 (.if_icmp .ge 23) 23 51 71 := by decide +kernel
theorem d_M_judge_51 : dI prog_8_method_79_code 51 (.aload_n 0) 1 52 := by decide +kernel
theorem d_M_judge_52 : dI prog_8_method_79_code 52 (.aload_n 0) 1 53 := by decide +kernel
theorem d_M_judge_53 : dI prog_8_method_79_code 53 (.getfield 7) 3 56 := by decide +kernel
theorem d_M_judge_56 : dI prog_8_method_79_code 56 (.bipush 72) 2 58 ∧ (Int8.ofInt 72).toInt32 = 72 := by decide +kernel
theorem d_M_judge_58 : dI prog_8_method_79_code 58 (.iload_n 3) 1 59 := by decide +kernel
theorem d_M_judge_59 : dI prog_8_method_79_code 59 .iadd 1 60 := by decide +kernel
theorem d_M_judge_60 : dI prog_8_method_79_code 60 .iaload 1 61 := by decide +kernel
theorem d_M_judge_61 : dI prog_8_method_79_code 61 (.invokevirtual 114) 3 64 := by decide +kernel
theorem d_M_judge_64 : dJ prog_8_method_79_code 64 (.ifCond .eq 7) 7 67 71 := by decide +kernel
theorem d_M_judge_67 : dI prog_8_method_79_code 67 (.iconst 1) 1 68 ∧ Int32.ofInt 1 = 1 := by decide +kernel
theorem d_M_judge_68 : dJ prog_8_method_79_code 68 (.goto 4) 4 71 72 := by decide +kernel
theorem d_M_judge_71 : dI prog_8_method_79_code 71 (.iconst 0) 1 72 ∧ Int32.ofInt 0 = 0 := by decide +kernel
theorem d_M_judge_72 : dI prog_8_method_79_code 72 (.istore 4) 2 74 := by decide +kernel
theorem d_M_judge_74 : dI prog_8_method_79_code 74 (.iload 4) 2 76 := by decide +kernel
theorem d_M_judge_76 : dJ prog_8_method_79_code 76 (.ifCond .eq 43) 43 79 119 := by decide +kernel
theorem d_M_judge_79 : dI prog_8_method_79_code 79 (.aload_n 0) 1 80 := by decide +kernel
theorem d_M_judge_80 : dI prog_8_method_79_code 80 (.aload_n 0) 1 81 := by decide +kernel
theorem d_M_judge_81 : dI prog_8_method_79_code 81 (.getfield 7) 3 84 := by decide +kernel
theorem d_M_judge_84 : dI prog_8_method_79_code 84 (.bipush 72) 2 86 ∧ (Int8.ofInt 72).toInt32 = 72 := by decide +kernel
theorem d_M_judge_86 : dI prog_8_method_79_code 86 (.iload_n 3) 1 87 := by decide +kernel
theorem d_M_judge_87 : dI prog_8_method_79_code 87 .iadd 1 88 := by decide +kernel
theorem d_M_judge_88 : dI prog_8_method_79_code 88 .iaload 1 89 := by decide +kernel
theorem d_M_judge_89 : dI prog_8_method_79_code 89 (.invokevirtual 117) 3 92 := by decide +kernel
theorem d_M_judge_92 : dI prog_8_method_79_code 92 (.aload_n 0) 1 93 := by decide +kernel
theorem d_M_judge_93 : dI prog_8_method_79_code 93 (.getfield 7) 3 96 := by decide +kernel
theorem d_M_judge_96 : dI prog_8_method_79_code 96 (.iconst 0) 1 97 ∧ Int32.ofInt 0 = 0 := by decide +kernel
theorem d_M_judge_97 : dI prog_8_method_79_code 97 .iaload 1 98 := by decide +kernel
theorem d_M_judge_98 : dI prog_8_method_79_code 98 (.aload_n 0) 1 99 := by decide +kernel
theorem d_M_judge_99 : dI prog_8_method_79_code 99 (.getfield 34) 3 102 := by decide +kernel
theorem d_M_judge_102 : dI prog_8_method_79_code 102 (.bipush 40) 2 104 ∧ (Int8.ofInt 40).toInt32 = 40 := by decide +kernel
theorem d_M_judge_104 : dI prog_8_method_79_code 104 (.iload_n 1) 1 105 := by decide +kernel
theorem d_M_judge_105 : dI prog_8_method_79_code 105 .imul 1 106 := by decide +kernel
theorem d_M_judge_106 : dI prog_8_method_79_code 106 (.iload_n 3) 1 107 := by decide +kernel
theorem d_M_judge_107 : dI prog_8_method_79_code 107 .iadd 1 108 := by decide +kernel
theorem d_M_judge_108 : dI prog_8_method_79_code 108 .iaload 1 109 := by decide +kernel
theorem d_M_judge_109 : dJ prog_8_method_79_code 109 (.if_icmp .ne 7) 7 112 116 := by decide +kernel
theorem d_M_judge_112 : dI prog_8_method_79_code 112 (.iconst 1) 1 113 ∧ Int32.ofInt 1 = 1 := by decide +kernel
theorem d_M_judge_113 : dJ prog_8_method_79_code 113 (.goto 4) 4 116 117 := by decide +kernel
theorem d_M_judge_116 : dI prog_8_method_79_code 116 (.iconst 0) 1 117 ∧ Int32.ofInt 0 = 0 := by decide +kernel
theorem d_M_judge_117 : dI prog_8_method_79_code 117 (.istore 4) 2 119 := by decide +kernel
theorem d_M_judge_119 : dI prog_8_method_79_code 119 (.iload_n 3) 1 120 := by decide +kernel
theorem d_M_judge_120 : dI prog_8_method_79_code 120 (.iload 4) 2 122 := by decide +kernel
theorem d_M_judge_122 : dJ prog_8_method_79_code 122 (.ifCond .eq 7) 7 125 129 := by decide +kernel
theorem d_M_judge_125 : dI prog_8_method_79_code 125 (.iconst 1) 1 126 ∧ Int32.ofInt 1 = 1 := by decide +kernel
theorem d_M_judge_126 : dJ prog_8_method_79_code 126 (.goto 4) 4 129 130 := by decide +kernel
theorem d_M_judge_129 : dI prog_8_method_79_code 129 (.iconst 0) 1 130 ∧ Int32.ofInt 0 = 0 := by decide +kernel
theorem d_M_judge_130 : dI prog_8_method_79_code 130 .iadd 1 131 := by decide +kernel
theorem d_M_judge_131 : dI prog_8_method_79_code 131 (.istore_n 3) 1 132 := by decide +kernel
theorem d_M_judge_132 : dJ prog_8_method_79_code 132 (.goto (-107)) (-107) 135 25 := by decide +kernel
theorem d_M_judge_135 : dI prog_8_method_79_code 135 (.aload_n 0) 1 136 := by decide +kernel
theorem d_M_judge_136 : dI prog_8_method_79_code 136 (.invokevirtual 121) 3 139 := by decide +kernel
theorem d_M_judge_139 : dI prog_8_method_79_code 139 (.iload 4) 2 141 := by decide +kernel
theorem d_M_judge_141 : dJ prog_8_method_79_code 141 (.ifCond .eq 7) 7 144 148 := by decide +kernel
theorem d_M_judge_144 : dI prog_8_method_79_code 144 (.iconst 0) 1 145 ∧ Int32.ofInt 0 = 0 := by decide +kernel
theorem d_M_judge_145 : dJ prog_8_method_79_code 145 (.goto 6) 6 148 151 := by decide +kernel
theorem d_M_judge_148 : dI prog_8_method_79_code 148 (.iconst 1) 1 149 ∧ Int32.ofInt 1 = 1 := by decide +kernel
theorem d_M_judge_149 : dI prog_8_method_79_code 149 (.iload_n 3) 1 150 := by decide +kernel
theorem d_M_judge_150 : dI prog_8_method_79_code 150 .iadd 1 151 := by decide +kernel
theorem d_M_judge_151 : decode prog_8_method_79_code 151 = .ok (.ireturn, 1) := by decide +kernel
theorem d_M_image_0 : dI prog_8_method_80_code 0 (.aload_n 0) 1 1 := by decide +kernel
theorem d_M_image_1 : dI prog_8_method_80_code 1 (.getfield 7) 3 4 := by decide +kernel
theorem d_M_image_4 : dI prog_8_method_80_code 4 (.aload_n 0) 1 5 := by decide +kernel
theorem d_M_image_5 : dI prog_8_method_80_code 5 (.getfield 13) 3 8 := by decide +kernel
theorem d_M_image_8 : dI prog_8_method_80_code 8 (.invokestatic 41) 3 11 := by decide +kernel
theorem d_M_image_11 : dI prog_8_method_80_code 11 (.aload_n 0) 1 12 := by decide +kernel
theorem d_M_image_12 : dI prog_8_method_80_code 12 (.iconst 1) 1 13 ∧ Int32.ofInt 1 = 1 := by decide +kernel
theorem d_M_image_13 : dI prog_8_method_80_code 13 (.putfield 236) 3 16 := by decide +kernel
theorem d_M_image_16 : dI prog_8_method_80_code 16 (.iconst 1) 1 17 ∧ Int32.ofInt 1 = 1 := by decide +kernel
theorem d_M_image_17 : decode prog_8_method_80_code 17 = .ok (.ireturn, 1) := by decide +kernel
theorem d_M_undo_0 : dI prog_8_method_81_code 0 (.aload_n 0) 1 1 := by decide +kernel
theorem d_M_undo_1 : dI prog_8_method_81_code 1 (.getfield 236) 3 4 := by decide +kernel
theorem d_M_undo_4 : dJ prog_8_method_81_code 4 (.ifCond .ne 9) 9 7 13 := by decide +kernel
theorem d_M_undo_7 : dI prog_8_method_81_code 7 (.aload_n 0) 1 8 := by decide +kernel
theorem d_M_undo_8 : dI prog_8_method_81_code 8 (.iconst 3) 1 9 ∧ Int32.ofInt 3 = 3 := by decide +kernel
theorem d_M_undo_9 : dI prog_8_method_81_code 9 (.invokevirtual 61) 3 12 := by decide +kernel
theorem d_M_undo_12 : decode prog_8_method_81_code 12 = .ok (.ireturn, 1) := by decide +kernel
theorem d_M_undo_13 : dI prog_8_method_81_code 13 (.aload_n 0) 1 14 := by decide +kernel
theorem d_M_undo_14 : dI prog_8_method_81_code 14 (.getfield 13) 3 17 := by decide +kernel
theorem d_M_undo_17 : dI prog_8_method_81_code 17 (.aload_n 0) 1 18 := by decide +kernel
theorem d_M_undo_18 : dI prog_8_method_81_code 18 (.getfield 7) 3 21 := by decide +kernel
theorem d_M_undo_21 : dI prog_8_method_81_code 21 (.invokestatic 41) 3 24 := by decide +kernel
theorem d_M_undo_24 : dI prog_8_method_81_code 24 (.aload_n 0) 1 25 := by decide +kernel
theorem d_M_undo_25 : dI prog_8_method_81_code 25 (.getfield 7) 3 28 := by decide +kernel
theorem d_M_undo_28 : dI prog_8_method_81_code 28 (.bipush 7) 2 30 ∧ (Int8.ofInt 7).toInt32 = 7 := by decide +kernel
theorem d_M_undo_30 : dI prog_8_method_81_code 30 .iaload 1 31 := by decide +kernel
theorem d_M_undo_31 : decode prog_8_method_81_code 31 = .ok (.ireturn, 1) := by decide +kernel
theorem d_M_tear_0 : dI prog_8_method_82_code 0 (.aload_n 0) 1 1 := by decide +kernel
theorem d_M_tear_1 : dI prog_8_method_82_code 1 (.getfield 236) 3 4 := by decide +kernel
theorem d_M_tear_4 : dJ prog_8_method_82_code 4 (.ifCond .eq 7) 7 7 11 := by decide +kernel
theorem d_M_tear_7 : dI prog_8_method_82_code 7 (.iconst 1) 1 8 ∧ Int32.ofInt 1 = 1 := by decide +kernel
theorem d_M_tear_8 : dJ prog_8_method_82_code 8 (.goto 4) 4 11 12 := by decide +kernel
theorem d_M_tear_11 : dI prog_8_method_82_code 11 (.iconst 0) 1 12 ∧ Int32.ofInt 0 = 0 := by decide +kernel
theorem d_M_tear_12 : dI prog_8_method_82_code 12 (.istore_n 1) 1 13 := by decide +kernel
theorem d_M_tear_13 : dI prog_8_method_82_code 13 (.aload_n 0) 1 14 := by decide +kernel
theorem d_M_tear_14 : dI prog_8_method_82_code 14 (.iconst 0) 1 15 ∧ Int32.ofInt 0 = 0 := by decide +kernel
theorem d_M_tear_15 : dI prog_8_method_82_code 15 (.putfield 236) 3 18 := by decide +kernel
theorem d_M_tear_18 : dI prog_8_method_82_code 18 (.iload_n 1) 1 19 := by decide +kernel
theorem d_M_tear_19 : decode prog_8_method_82_code 19 = .ok (.ireturn, 1) := by decide +kernel
theorem d_M_told_0 : dI prog_8_method_83_code 0 (.iconst 0) 1 1 ∧ Int32.ofInt 0 = 0 := by decide +kernel
theorem d_M_told_1 : dI prog_8_method_83_code 1 (.istore_n 3) 1 2 := by decide +kernel
theorem d_M_told_2 : dI prog_8_method_83_code 2 (.iconst 0) 1 3 ∧ Int32.ofInt 0 = 0 := by decide +kernel
theorem d_M_told_3 : dI prog_8_method_83_code 3 (.istore 4) 2 5 := by decide +kernel
theorem d_M_told_5 : dI prog_8_method_83_code 5 (.iload 4) 2 7 := by decide +kernel
theorem d_M_told_7 : dI prog_8_method_83_code 7 (.iload_n 2) 1 8 := by decide +kernel
theorem d_M_told_8 : dJ prog_8_method_83_code 8 (.if_icmp .ge 30) 30 11 38 := by decide +kernel
theorem d_M_told_11 : dI prog_8_method_83_code 11 (.iload_n 3) 1 12 := by decide +kernel
theorem d_M_told_12 : dI prog_8_method_83_code 12 (.aload_n 0) 1 13 := by decide +kernel
theorem d_M_told_13 : dI prog_8_method_83_code 13 (.getfield 7) 3 16 := by decide +kernel
theorem d_M_told_16 : dI prog_8_method_83_code 16 (.iload_n 1) 1 17 := by decide +kernel
theorem d_M_told_17 : dI prog_8_method_83_code 17 (.iload 4) 2 19 := by decide +kernel
theorem d_M_told_19 : dI prog_8_method_83_code 19 .iadd 1 20 := by decide +kernel
theorem d_M_told_20 : dI prog_8_method_83_code 20 .iaload 1 21 := by decide +kernel
theorem d_M_told_21 : dI prog_8_method_83_code 21 (.iconst (-1)) 1 22 ∧ Int32.ofInt (-1) = (-1) := by decide +kernel
theorem d_M_told_22 : dJ prog_8_method_83_code 22 (.if_icmp .ne 7) 7 25 29 := by decide +kernel
theorem d_M_told_25 : dI prog_8_method_83_code 25 (.iconst 0) 1 26 ∧ Int32.ofInt 0 = 0 := by decide +kernel
theorem d_M_told_26 : dJ prog_8_method_83_code 26 (.goto 4) 4 29 30 := by decide +kernel
theorem d_M_told_29 : dI prog_8_method_83_code 29 (.iconst 1) 1 30 ∧ Int32.ofInt 1 = 1 := by decide +kernel
theorem d_M_told_30 : dI prog_8_method_83_code 30 .iadd 1 31 := by decide +kernel
theorem d_M_told_31 : dI prog_8_method_83_code 31 (.istore_n 3) 1 32 := by decide +kernel
theorem d_M_told_32 : dI prog_8_method_83_code 32 (.iinc 4 1) 3 35 ∧ Int32.ofInt 1 = 1 := by decide +kernel
theorem d_M_told_35 : dJ prog_8_method_83_code 35 (.goto (-30)) (-30) 38 5 := by decide +kernel
theorem d_M_told_38 : dI prog_8_method_83_code 38 (.iload_n 3) 1 39 := by decide +kernel
theorem d_M_told_39 : decode prog_8_method_83_code 39 = .ok (.ireturn, 1) := by decide +kernel
theorem d_M_count_0 : dI prog_8_method_84_code 0 (.iload_n 1) 1 1 := by decide +kernel
theorem d_M_count_1 : decode prog_8_method_84_code 1 = .ok (.tableswitch 83 0 5 #[39, 47, 56, 65, 70, 78], 39) := by decide +kernel
theorem d_M_count_40 : dI prog_8_method_84_code 40 (.aload_n 0) 1 41 := by decide +kernel
theorem d_M_count_41 : dI prog_8_method_84_code 41 (.getfield 7) 3 44 := by decide +kernel
theorem d_M_count_44 : dI prog_8_method_84_code 44 (.bipush 11) 2 46 ∧ (Int8.ofInt 11).toInt32 = 11 := by decide +kernel
theorem d_M_count_46 : dI prog_8_method_84_code 46 .iaload 1 47 := by decide +kernel
theorem d_M_count_47 : decode prog_8_method_84_code 47 = .ok (.ireturn, 1) := by decide +kernel
theorem d_M_count_48 : dI prog_8_method_84_code 48 (.aload_n 0) 1 49 := by decide +kernel
theorem d_M_count_49 : dI prog_8_method_84_code 49 (.bipush 52) 2 51 ∧ (Int8.ofInt 52).toInt32 = 52 := by decide +kernel
theorem d_M_count_51 : dI prog_8_method_84_code 51 (.bipush 10) 2 53 ∧ (Int8.ofInt 10).toInt32 = 10 := by decide +kernel
theorem d_M_count_53 : dI prog_8_method_84_code 53 (.invokevirtual 240) 3 56 := by decide +kernel
theorem d_M_count_56 : decode prog_8_method_84_code 56 = .ok (.ireturn, 1) := by decide +kernel
theorem d_M_count_57 : dI prog_8_method_84_code 57 (.aload_n 0) 1 58 := by decide +kernel
theorem d_M_count_58 : dI prog_8_method_84_code 58 (.bipush 62) 2 60 ∧ (Int8.ofInt 62).toInt32 = 62 := by decide +kernel
theorem d_M_count_60 : dI prog_8_method_84_code 60 (.bipush 10) 2 62 ∧ (Int8.ofInt 10).toInt32 = 10 := by decide +kernel
theorem d_M_count_62 : dI prog_8_method_84_code 62 (.invokevirtual 240) 3 65 := by decide +kernel
theorem d_M_count_65 : decode prog_8_method_84_code 65 = .ok (.ireturn, 1) := by decide +kernel
theorem d_M_count_66 : dI prog_8_method_84_code 66 (.aload_n 0) 1 67 := by decide +kernel
theorem d_M_count_67 : dI prog_8_method_84_code 67 (.getfield 136) 3 70 := by decide +kernel
theorem d_M_count_70 : decode prog_8_method_84_code 70 = .ok (.ireturn, 1) := by decide +kernel
theorem d_M_count_71 : dI prog_8_method_84_code 71 (.aload_n 0) 1 72 := by decide +kernel
theorem d_M_count_72 : dI prog_8_method_84_code 72 (.getfield 7) 3 75 := by decide +kernel
theorem d_M_count_75 : dI prog_8_method_84_code 75 (.bipush 10) 2 77 ∧ (Int8.ofInt 10).toInt32 = 10 := by decide +kernel
theorem d_M_count_77 : dI prog_8_method_84_code 77 .iaload 1 78 := by decide +kernel
theorem d_M_count_78 : decode prog_8_method_84_code 78 = .ok (.ireturn, 1) := by decide +kernel
theorem d_M_count_79 : dI prog_8_method_84_code 79 (.aload_n 0) 1 80 := by decide +kernel
theorem d_M_count_80 : dI prog_8_method_84_code 80 (.invokevirtual 89) 3 83 := by decide +kernel
theorem d_M_count_83 : decode prog_8_method_84_code 83 = .ok (.ireturn, 1) := by decide +kernel
theorem d_M_count_84 : dI prog_8_method_84_code 84 (.aload_n 0) 1 85 := by decide +kernel
theorem d_M_count_85 : dI prog_8_method_84_code 85 (.iconst 0) 1 86 ∧ Int32.ofInt 0 = 0 := by decide +kernel
theorem d_M_count_86 : dI prog_8_method_84_code 86 (.invokevirtual 61) 3 89 := by decide +kernel
theorem d_M_count_89 : decode prog_8_method_84_code 89 = .ok (.ireturn, 1) := by decide +kernel
theorem d_M_status_0 : dI prog_8_method_85_code 0 (.iload_n 1) 1 1 := by decide +kernel
theorem d_M_status_1 : dI prog_8_method_85_code 1 (.iconst (-1)) 1 2 ∧ Int32.ofInt (-1) = (-1) := by decide +kernel
theorem d_M_status_2 : dI prog_8_method_85_code 2 (.bipush 6) 2 4 ∧ (Int8.ofInt 6).toInt32 = 6 := by decide +kernel
theorem d_M_status_4 : dI prog_8_method_85_code 4 (.invokestatic 45) 3 7 := by decide +kernel
theorem d_M_status_7 : dJ prog_8_method_85_code 7 (.ifCond .ne 9) 9 10 16 := by decide +kernel
theorem d_M_status_10 : dI prog_8_method_85_code 10 (.aload_n 0) 1 11 := by decide +kernel
theorem d_M_status_11 : dI prog_8_method_85_code 11 (.iconst 0) 1 12 ∧ Int32.ofInt 0 = 0 := by decide +kernel
theorem d_M_status_12 : dI prog_8_method_85_code 12 (.invokevirtual 61) 3 15 := by decide +kernel
theorem d_M_status_15 : decode prog_8_method_85_code 15 = .ok (.ireturn, 1) := by decide +kernel
theorem d_M_status_16 : dI prog_8_method_85_code 16 (.iconst 0) 1 17 ∧ Int32.ofInt 0 = 0 := by decide +kernel
theorem d_M_status_17 : dI prog_8_method_85_code 17 (.istore_n 2) 1 18 := by decide +kernel
theorem d_M_status_18 : dI prog_8_method_85_code 18 (.iconst 0) 1 19 ∧ Int32.ofInt 0 = 0 := by decide +kernel
theorem d_M_status_19 : dI prog_8_method_85_code 19 (.istore_n 3) 1 20 := by decide +kernel
theorem d_M_status_20 : dI prog_8_method_85_code 20 (.iload_n 3) 1 21 := by decide +kernel
theorem d_M_status_21 : dI prog_8_method_85_code 21 (.bipush 7) 2 23 ∧ (Int8.ofInt 7).toInt32 = 7 := by decide +kernel
theorem d_M_status_23 : dJ prog_8_method_85_code 23 (.if_icmp .ge 32) 32 26 55 := by decide +kernel
theorem d_M_status_26 : dI prog_8_method_85_code 26 (.iload_n 2) 1 27 := by decide +kernel
theorem d_M_status_27 : dI prog_8_method_85_code 27 (.iload_n 1) 1 28 := by decide +kernel
theorem d_M_status_28 : dI prog_8_method_85_code 28 (.iconst (-1)) 1 29 ∧ Int32.ofInt (-1) = (-1) := by decide +kernel
theorem d_M_status_29 : dJ prog_8_method_85_code 29 (.if_icmp .eq 8) 8 32 37 := by decide +kernel
theorem d_M_status_32 : dI prog_8_method_85_code 32 (.iload_n 1) 1 33 := by decide +kernel
theorem d_M_status_33 : dI prog_8_method_85_code 33 (.iload_n 3) 1 34 := by decide +kernel
theorem d_M_status_34 : dJ prog_8_method_85_code 34 (.if_icmp .ne 12) 12 37 46 := by decide +kernel
theorem d_M_status_37 : dI prog_8_method_85_code 37 (.aload_n 0) 1 38 := by decide +kernel
theorem d_M_status_38 : dI prog_8_method_85_code 38 (.getfield 19) 3 41 := by decide +kernel
theorem d_M_status_41 : dI prog_8_method_85_code 41 (.iload_n 3) 1 42 := by decide +kernel
theorem d_M_status_42 : dI prog_8_method_85_code 42 .iaload 1 43 := by decide +kernel
theorem d_M_status_43 : dJ prog_8_method_85_code 43 (.goto 4) 4 46 47 := by decide +kernel
theorem d_M_status_46 : dI prog_8_method_85_code 46 (.iconst 0) 1 47 ∧ Int32.ofInt 0 = 0 := by decide +kernel
theorem d_M_status_47 : dI prog_8_method_85_code 47 .iadd 1 48 := by decide +kernel
theorem d_M_status_48 : dI prog_8_method_85_code 48 (.istore_n 2) 1 49 := by decide +kernel
theorem d_M_status_49 : dI prog_8_method_85_code 49 (.iinc 3 1) 3 52 ∧ Int32.ofInt 1 = 1 := by decide +kernel
theorem d_M_status_52 : dJ prog_8_method_85_code 52 (.goto (-32)) (-32) 55 20 := by decide +kernel
theorem d_M_status_55 : dI prog_8_method_85_code 55 (.iload_n 2) 1 56 := by decide +kernel
theorem d_M_status_56 : decode prog_8_method_85_code 56 = .ok (.ireturn, 1) := by decide +kernel
