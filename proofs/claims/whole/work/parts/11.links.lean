theorem ml_law_9 : Cond.methodLink "SandLorryLaw" 9 k_S_init.1 ∈ TG := TG_at 17 (by decide +kernel) (by decide +kernel)
theorem ml_S_1 : Cond.methodLink "SandLorry" 1 Lib.objectInit ∈ TG := TG_at 20 (by decide +kernel) (by decide +kernel)
theorem ml_S_9 : Cond.methodLink "SandLorry" 9 k_C_init.1 ∈ TG := TG_at 25 (by decide +kernel) (by decide +kernel)
theorem ml_C_3 : Cond.methodLink "SandLorry$Scene" 3 Lib.objectInit ∈ TG := TG_at 28 (by decide +kernel) (by decide +kernel)
theorem ml_C_11 : Cond.methodLink "SandLorry$Scene" 11 k_L_init.1 ∈ TG := TG_at 31 (by decide +kernel) (by decide +kernel)
theorem ml_L_3 : Cond.methodLink "SandLorry$Lorry" 3 Lib.objectInit ∈ TG := TG_at 34 (by decide +kernel) (by decide +kernel)
theorem fl_C_20 : FLk "SandLorry$Scene" 20 0 0 := ⟨_, rfl, by decide, rfl, TG_at 35 (by decide +kernel) (by decide +kernel)⟩
theorem fl_L_15 : FLk "SandLorry$Lorry" 15 0 0 := ⟨_, rfl, by decide, rfl, TG_at 36 (by decide +kernel) (by decide +kernel)⟩
theorem fl_L_9 : FLk "SandLorry$Lorry" 9 0 1 := ⟨_, rfl, by decide, rfl, TG_at 37 (by decide +kernel) (by decide +kernel)⟩
theorem fl_S_71 : FLk "SandLorry" 71 0 1 := ⟨_, rfl, by decide, rfl, TG_at 38 (by decide +kernel) (by decide +kernel)⟩
theorem fl_P_79 : FLk "SandLorry$Tape" 79 0 1 := ⟨_, rfl, by decide, rfl, TG_at 39 (by decide +kernel) (by decide +kernel)⟩
theorem ml_C_38 : Cond.methodLink "SandLorry$Scene" 38 k_JA_fill.1 ∈ TG := TG_at 46 (by decide +kernel) (by decide +kernel)
theorem fl_C_14 : FLk "SandLorry$Scene" 14 1 0 := ⟨_, rfl, by decide, rfl, TG_at 49 (by decide +kernel) (by decide +kernel)⟩
theorem fl_S_22 : FLk "SandLorry" 22 1 0 := ⟨_, rfl, by decide, rfl, TG_at 50 (by decide +kernel) (by decide +kernel)⟩
theorem fl_P_75 : FLk "SandLorry$Tape" 75 1 0 := ⟨_, rfl, by decide, rfl, TG_at 51 (by decide +kernel) (by decide +kernel)⟩
theorem fl_C_24 : FLk "SandLorry$Scene" 24 1 1 := ⟨_, rfl, by decide, rfl, TG_at 52 (by decide +kernel) (by decide +kernel)⟩
theorem fl_S_29 : FLk "SandLorry" 29 1 1 := ⟨_, rfl, by decide, rfl, TG_at 53 (by decide +kernel) (by decide +kernel)⟩
theorem fl_P_65 : FLk "SandLorry$Tape" 65 1 1 := ⟨_, rfl, by decide, rfl, TG_at 54 (by decide +kernel) (by decide +kernel)⟩
theorem fl_C_25 : FLk "SandLorry$Scene" 25 1 2 := ⟨_, rfl, by decide, rfl, TG_at 55 (by decide +kernel) (by decide +kernel)⟩
theorem fl_S_107 : FLk "SandLorry" 107 1 2 := ⟨_, rfl, by decide, rfl, TG_at 56 (by decide +kernel) (by decide +kernel)⟩
theorem fl_C_28 : FLk "SandLorry$Scene" 28 1 3 := ⟨_, rfl, by decide, rfl, TG_at 57 (by decide +kernel) (by decide +kernel)⟩
theorem fl_S_190 : FLk "SandLorry" 190 1 3 := ⟨_, rfl, by decide, rfl, TG_at 58 (by decide +kernel) (by decide +kernel)⟩
theorem fl_C_31 : FLk "SandLorry$Scene" 31 1 4 := ⟨_, rfl, by decide, rfl, TG_at 59 (by decide +kernel) (by decide +kernel)⟩
theorem fl_S_154 : FLk "SandLorry" 154 1 4 := ⟨_, rfl, by decide, rfl, TG_at 60 (by decide +kernel) (by decide +kernel)⟩
theorem fl_C_54 : FLk "SandLorry$Scene" 54 1 5 := ⟨_, rfl, by decide, rfl, TG_at 61 (by decide +kernel) (by decide +kernel)⟩
theorem fl_S_151 : FLk "SandLorry" 151 1 5 := ⟨_, rfl, by decide, rfl, TG_at 62 (by decide +kernel) (by decide +kernel)⟩
theorem fl_C_34 : FLk "SandLorry$Scene" 34 1 6 := ⟨_, rfl, by decide, rfl, TG_at 63 (by decide +kernel) (by decide +kernel)⟩
theorem fl_S_184 : FLk "SandLorry" 184 1 6 := ⟨_, rfl, by decide, rfl, TG_at 64 (by decide +kernel) (by decide +kernel)⟩
theorem ml_S_33 : Cond.methodLink "SandLorry" 33 k_L_init.1 ∈ TG := TG_at 81 (by decide +kernel) (by decide +kernel)
theorem ml_S_41 : Cond.methodLink "SandLorry" 41 k_H_init.1 ∈ TG := TG_at 84 (by decide +kernel) (by decide +kernel)
theorem ml_H_3 : Cond.methodLink "SandLorry$Search" 3 Lib.objectInit ∈ TG := TG_at 87 (by decide +kernel) (by decide +kernel)
theorem ml_H_17 : Cond.methodLink "SandLorry$Search" 17 k_L_init.1 ∈ TG := TG_at 90 (by decide +kernel) (by decide +kernel)
theorem fl_H_11 : FLk "SandLorry$Search" 11 2 0 := ⟨_, rfl, by decide, rfl, TG_at 91 (by decide +kernel) (by decide +kernel)⟩
theorem fl_H_24 : FLk "SandLorry$Search" 24 2 1 := ⟨_, rfl, by decide, rfl, TG_at 92 (by decide +kernel) (by decide +kernel)⟩
theorem fl_S_168 : FLk "SandLorry" 168 2 1 := ⟨_, rfl, by decide, rfl, TG_at 93 (by decide +kernel) (by decide +kernel)⟩
theorem fl_H_44 : FLk "SandLorry$Search" 44 2 2 := ⟨_, rfl, by decide, rfl, TG_at 94 (by decide +kernel) (by decide +kernel)⟩
theorem fl_S_172 : FLk "SandLorry" 172 2 2 := ⟨_, rfl, by decide, rfl, TG_at 95 (by decide +kernel) (by decide +kernel)⟩
theorem fl_H_48 : FLk "SandLorry$Search" 48 2 3 := ⟨_, rfl, by decide, rfl, TG_at 96 (by decide +kernel) (by decide +kernel)⟩
theorem fl_S_175 : FLk "SandLorry" 175 2 3 := ⟨_, rfl, by decide, rfl, TG_at 97 (by decide +kernel) (by decide +kernel)⟩
theorem fl_H_51 : FLk "SandLorry$Search" 51 2 4 := ⟨_, rfl, by decide, rfl, TG_at 98 (by decide +kernel) (by decide +kernel)⟩
theorem fl_S_178 : FLk "SandLorry" 178 2 4 := ⟨_, rfl, by decide, rfl, TG_at 99 (by decide +kernel) (by decide +kernel)⟩
theorem ml_P_3 : Cond.methodLink "SandLorry$Tape" 3 Lib.objectInit ∈ TG := TG_at 116 (by decide +kernel) (by decide +kernel)
theorem fl_P_9 : FLk "SandLorry$Tape" 9 4 0 := ⟨_, rfl, by decide, rfl, TG_at 117 (by decide +kernel) (by decide +kernel)⟩
theorem fl_P_15 : FLk "SandLorry$Tape" 15 4 1 := ⟨_, rfl, by decide, rfl, TG_at 118 (by decide +kernel) (by decide +kernel)⟩
theorem fl_S_137 : FLk "SandLorry" 137 4 1 := ⟨_, rfl, by decide, rfl, TG_at 119 (by decide +kernel) (by decide +kernel)⟩
theorem fl_P_32 : FLk "SandLorry$Tape" 32 4 2 := ⟨_, rfl, by decide, rfl, TG_at 120 (by decide +kernel) (by decide +kernel)⟩
theorem fl_P_29 : FLk "SandLorry$Tape" 29 4 3 := ⟨_, rfl, by decide, rfl, TG_at 121 (by decide +kernel) (by decide +kernel)⟩
theorem fl_P_19 : FLk "SandLorry$Tape" 19 4 4 := ⟨_, rfl, by decide, rfl, TG_at 122 (by decide +kernel) (by decide +kernel)⟩
theorem fl_P_55 : FLk "SandLorry$Tape" 55 4 5 := ⟨_, rfl, by decide, rfl, TG_at 123 (by decide +kernel) (by decide +kernel)⟩
theorem ml_T_3 : Cond.methodLink "SandLorry$Sheet" 3 Lib.objectInit ∈ TG := TG_at 143 (by decide +kernel) (by decide +kernel)
theorem fl_T_9 : FLk "SandLorry$Sheet" 9 3 0 := ⟨_, rfl, by decide, rfl, TG_at 144 (by decide +kernel) (by decide +kernel)⟩
theorem fl_S_213 : FLk "SandLorry" 213 3 0 := ⟨_, rfl, by decide, rfl, TG_at 145 (by decide +kernel) (by decide +kernel)⟩
theorem fl_T_15 : FLk "SandLorry$Sheet" 15 3 1 := ⟨_, rfl, by decide, rfl, TG_at 146 (by decide +kernel) (by decide +kernel)⟩
theorem fl_S_219 : FLk "SandLorry" 219 3 1 := ⟨_, rfl, by decide, rfl, TG_at 147 (by decide +kernel) (by decide +kernel)⟩
theorem fl_T_29 : FLk "SandLorry$Sheet" 29 3 2 := ⟨_, rfl, by decide, rfl, TG_at 148 (by decide +kernel) (by decide +kernel)⟩
theorem fl_S_204 : FLk "SandLorry" 204 3 2 := ⟨_, rfl, by decide, rfl, TG_at 149 (by decide +kernel) (by decide +kernel)⟩
theorem fl_S_10 : FLk "SandLorry" 10 5 0 := ⟨_, rfl, by decide, rfl, TG_at 157 (by decide +kernel) (by decide +kernel)⟩
theorem fl_S_16 : FLk "SandLorry" 16 5 1 := ⟨_, rfl, by decide, rfl, TG_at 158 (by decide +kernel) (by decide +kernel)⟩
theorem fl_S_19 : FLk "SandLorry" 19 5 2 := ⟨_, rfl, by decide, rfl, TG_at 159 (by decide +kernel) (by decide +kernel)⟩
theorem fl_S_26 : FLk "SandLorry" 26 5 3 := ⟨_, rfl, by decide, rfl, TG_at 160 (by decide +kernel) (by decide +kernel)⟩
theorem fl_S_36 : FLk "SandLorry" 36 5 4 := ⟨_, rfl, by decide, rfl, TG_at 161 (by decide +kernel) (by decide +kernel)⟩
theorem fl_S_42 : FLk "SandLorry" 42 5 5 := ⟨_, rfl, by decide, rfl, TG_at 162 (by decide +kernel) (by decide +kernel)⟩
theorem fl_S_49 : FLk "SandLorry" 49 5 6 := ⟨_, rfl, by decide, rfl, TG_at 163 (by decide +kernel) (by decide +kernel)⟩
theorem fl_S_56 : FLk "SandLorry" 56 5 7 := ⟨_, rfl, by decide, rfl, TG_at 164 (by decide +kernel) (by decide +kernel)⟩
theorem fl_S_60 : FLk "SandLorry" 60 5 8 := ⟨_, rfl, by decide, rfl, TG_at 165 (by decide +kernel) (by decide +kernel)⟩
theorem fl_S_237 : FLk "SandLorry" 237 5 9 := ⟨_, rfl, by decide, rfl, TG_at 166 (by decide +kernel) (by decide +kernel)⟩
theorem ml_law_13 : Cond.methodLink "SandLorryLaw" 13 k_S_sand.1 ∈ TG := TG_at 188 (by decide +kernel) (by decide +kernel)
theorem ml_S_63 : Cond.methodLink "SandLorry" 63 k_S_isYard.1 ∈ TG := TG_at 192 (by decide +kernel) (by decide +kernel)
theorem ml_S_67 : Cond.methodLink "SandLorry" 67 k_S_finding.1 ∈ TG := TG_at 195 (by decide +kernel) (by decide +kernel)
theorem cn_S_244 : Cond.constant "SandLorry" 244 (-1000001) ∈ TG := TG_at 199 (by decide +kernel) (by decide +kernel)
theorem ml_law_18 : Cond.methodLink "SandLorryLaw" 18 k_S_yardOf.1 ∈ TG := TG_at 200 (by decide +kernel) (by decide +kernel)
theorem ml_S_74 : Cond.methodLink "SandLorry" 74 k_L_gripOf.1 ∈ TG := TG_at 204 (by decide +kernel) (by decide +kernel)
theorem ml_L_28 : Cond.methodLink "SandLorry$Lorry" 28 k_L_hour.1 ∈ TG := TG_at 208 (by decide +kernel) (by decide +kernel)
theorem ml_law_22 : Cond.methodLink "SandLorryLaw" 22 k_S_set.1 ∈ TG := TG_at 212 (by decide +kernel) (by decide +kernel)
theorem ml_S_78 : Cond.methodLink "SandLorry" 78 k_S_leastOf.1 ∈ TG := TG_at 216 (by decide +kernel) (by decide +kernel)
theorem ml_S_81 : Cond.methodLink "SandLorry" 81 k_S_mostOf.1 ∈ TG := TG_at 219 (by decide +kernel) (by decide +kernel)
theorem ml_law_26 : Cond.methodLink "SandLorryLaw" 26 k_S_now.1 ∈ TG := TG_at 222 (by decide +kernel) (by decide +kernel)
theorem ml_S_84 : Cond.methodLink "SandLorry" 84 k_L_hour.1 ∈ TG := TG_at 226 (by decide +kernel) (by decide +kernel)
theorem ml_S_88 : Cond.methodLink "SandLorry" 88 k_L_heat.1 ∈ TG := TG_at 227 (by decide +kernel) (by decide +kernel)
theorem ml_S_91 : Cond.methodLink "SandLorry" 91 k_L_weight.1 ∈ TG := TG_at 231 (by decide +kernel) (by decide +kernel)
theorem ml_S_94 : Cond.methodLink "SandLorry" 94 k_L_isOut.1 ∈ TG := TG_at 238 (by decide +kernel) (by decide +kernel)
theorem ml_law_31 : Cond.methodLink "SandLorryLaw" 31 k_S_soft.1 ∈ TG := TG_at 243 (by decide +kernel) (by decide +kernel)
theorem ml_law_35 : Cond.methodLink "SandLorryLaw" 35 k_S_wind.1 ∈ TG := TG_at 247 (by decide +kernel) (by decide +kernel)
theorem ml_S_98 : Cond.methodLink "SandLorry" 98 k_C_draw.1 ∈ TG := TG_at 251 (by decide +kernel) (by decide +kernel)
theorem cn_C_57 : Cond.constant "SandLorry$Scene" 57 (1103515245) ∈ TG := TG_at 255 (by decide +kernel) (by decide +kernel)
theorem ml_S_101 : Cond.methodLink "SandLorry" 101 k_C_firmInAll.1 ∈ TG := TG_at 256 (by decide +kernel) (by decide +kernel)
theorem ml_law_39 : Cond.methodLink "SandLorryLaw" 39 k_S_effort.1 ∈ TG := TG_at 260 (by decide +kernel) (by decide +kernel)
theorem ml_S_104 : Cond.methodLink "SandLorry" 104 k_S_isSlot.1 ∈ TG := TG_at 264 (by decide +kernel) (by decide +kernel)
theorem ml_law_43 : Cond.methodLink "SandLorryLaw" 43 k_S_effortOf.1 ∈ TG := TG_at 267 (by decide +kernel) (by decide +kernel)
theorem ml_S_110 : Cond.methodLink "SandLorry" 110 k_L_minutesOf.1 ∈ TG := TG_at 271 (by decide +kernel) (by decide +kernel)
theorem ml_S_113 : Cond.methodLink "SandLorry" 113 k_S_workOf.1 ∈ TG := TG_at 275 (by decide +kernel) (by decide +kernel)
theorem ml_S_116 : Cond.methodLink "SandLorry" 116 k_L_drinkOf.1 ∈ TG := TG_at 278 (by decide +kernel) (by decide +kernel)
theorem ml_L_40 : Cond.methodLink "SandLorry$Lorry" 40 k_L_heat.1 ∈ TG := TG_at 283 (by decide +kernel) (by decide +kernel)
theorem ml_L_43 : Cond.methodLink "SandLorry$Lorry" 43 k_L_minutesOf.1 ∈ TG := TG_at 284 (by decide +kernel) (by decide +kernel)
theorem ml_law_47 : Cond.methodLink "SandLorryLaw" 47 k_S_go.1 ∈ TG := TG_at 285 (by decide +kernel) (by decide +kernel)
theorem ml_S_119 : Cond.methodLink "SandLorry" 119 k_L_carriesOut.1 ∈ TG := TG_at 289 (by decide +kernel) (by decide +kernel)
theorem ml_L_46 : Cond.methodLink "SandLorry$Lorry" 46 k_L_drinkOf.1 ∈ TG := TG_at 293 (by decide +kernel) (by decide +kernel)
theorem ml_L_49 : Cond.methodLink "SandLorry$Lorry" 49 k_L_isOut.1 ∈ TG := TG_at 294 (by decide +kernel) (by decide +kernel)
theorem ml_S_245 : Cond.methodLink "SandLorry" 245 k_S_kindAbove.1 ∈ TG := TG_at 298 (by decide +kernel) (by decide +kernel)
theorem ml_L_57 : Cond.methodLink "SandLorry$Lorry" 57 Lib.Math.max.name ∈ TG := TG_at 301 (by decide +kernel) (by decide +kernel)
theorem ml_L_62 : Cond.methodLink "SandLorry$Lorry" 62 Lib.Math.min.name ∈ TG := TG_at 304 (by decide +kernel) (by decide +kernel)
theorem ml_L_65 : Cond.methodLink "SandLorry$Lorry" 65 k_L_drive.1 ∈ TG := TG_at 307 (by decide +kernel) (by decide +kernel)
theorem ml_L_69 : Cond.methodLink "SandLorry$Lorry" 69 k_L_push.1 ∈ TG := TG_at 311 (by decide +kernel) (by decide +kernel)
theorem ml_L_73 : Cond.methodLink "SandLorry$Lorry" 73 k_L_gripOf.1 ∈ TG := TG_at 315 (by decide +kernel) (by decide +kernel)
theorem ml_L_76 : Cond.methodLink "SandLorry$Lorry" 76 k_L_weight.1 ∈ TG := TG_at 316 (by decide +kernel) (by decide +kernel)
theorem ml_law_51 : Cond.methodLink "SandLorryLaw" 51 k_S_gives.1 ∈ TG := TG_at 317 (by decide +kernel) (by decide +kernel)
theorem ml_S_122 : Cond.methodLink "SandLorry" 122 k_L_become.1 ∈ TG := TG_at 321 (by decide +kernel) (by decide +kernel)
theorem ml_L_18 : Cond.methodLink "SandLorry$Lorry" 18 arraycopyName ∈ TG := TG_at 325 (by decide +kernel) (by decide +kernel)
theorem ml_S_126 : Cond.methodLink "SandLorry" 126 k_L_since.1 ∈ TG := TG_at 328 (by decide +kernel) (by decide +kernel)
theorem ml_law_55 : Cond.methodLink "SandLorryLaw" 55 k_S_lasts.1 ∈ TG := TG_at 332 (by decide +kernel) (by decide +kernel)
theorem ml_law_59 : Cond.methodLink "SandLorryLaw" 59 k_S_out.1 ∈ TG := TG_at 336 (by decide +kernel) (by decide +kernel)
theorem ml_S_130 : Cond.methodLink "SandLorry" 130 k_S_timesTillOut.1 ∈ TG := TG_at 340 (by decide +kernel) (by decide +kernel)
theorem ml_law_63 : Cond.methodLink "SandLorryLaw" 63 k_S_when.1 ∈ TG := TG_at 344 (by decide +kernel) (by decide +kernel)
theorem ml_S_133 : Cond.methodLink "SandLorry" 133 k_L_passHours.1 ∈ TG := TG_at 348 (by decide +kernel) (by decide +kernel)
theorem ml_law_67 : Cond.methodLink "SandLorryLaw" 67 k_S_feed.1 ∈ TG := TG_at 352 (by decide +kernel) (by decide +kernel)
theorem ml_S_141 : Cond.methodLink "SandLorry" 141 k_P_append.1 ∈ TG := TG_at 356 (by decide +kernel) (by decide +kernel)
theorem ml_law_71 : Cond.methodLink "SandLorryLaw" 71 k_S_wipe.1 ∈ TG := TG_at 360 (by decide +kernel) (by decide +kernel)
theorem ml_law_76 : Cond.methodLink "SandLorryLaw" 76 k_S_text.1 ∈ TG := TG_at 364 (by decide +kernel) (by decide +kernel)
theorem ml_S_144 : Cond.methodLink "SandLorry" 144 k_C_become.1 ∈ TG := TG_at 368 (by decide +kernel) (by decide +kernel)
theorem ml_C_44 : Cond.methodLink "SandLorry$Scene" 44 arraycopyName ∈ TG := TG_at 372 (by decide +kernel) (by decide +kernel)
theorem ml_C_50 : Cond.methodLink "SandLorry$Scene" 50 k_L_become.1 ∈ TG := TG_at 373 (by decide +kernel) (by decide +kernel)
theorem ml_S_147 : Cond.methodLink "SandLorry" 147 k_P_readInto.1 ∈ TG := TG_at 374 (by decide +kernel) (by decide +kernel)
theorem ml_P_22 : Cond.methodLink "SandLorry$Tape" 22 k_P_step.1 ∈ TG := TG_at 378 (by decide +kernel) (by decide +kernel)
theorem ml_P_84 : Cond.methodLink "SandLorry$Tape" 84 k_P_endOfRun.1 ∈ TG := TG_at 382 (by decide +kernel) (by decide +kernel)
theorem ml_P_91 : Cond.methodLink "SandLorry$Tape" 91 Lib.Math.max.name ∈ TG := TG_at 386 (by decide +kernel) (by decide +kernel)
theorem ml_P_88 : Cond.methodLink "SandLorry$Tape" 88 k_P_numberRead.1 ∈ TG := TG_at 387 (by decide +kernel) (by decide +kernel)
theorem ml_P_97 : Cond.methodLink "SandLorry$Tape" 97 Lib.Math.min.name ∈ TG := TG_at 391 (by decide +kernel) (by decide +kernel)
theorem ml_P_25 : Cond.methodLink "SandLorry$Tape" 25 k_P_readItem.1 ∈ TG := TG_at 392 (by decide +kernel) (by decide +kernel)
theorem ml_P_35 : Cond.methodLink "SandLorry$Tape" 35 k_P_wordRead.1 ∈ TG := TG_at 396 (by decide +kernel) (by decide +kernel)
theorem ml_P_100 : Cond.methodLink "SandLorry$Tape" 100 k_P_wordOf.1 ∈ TG := TG_at 400 (by decide +kernel) (by decide +kernel)
theorem ml_P_104 : Cond.methodLink "SandLorry$Tape" 104 k_P_spells.1 ∈ TG := TG_at 417 (by decide +kernel) (by decide +kernel)
theorem ml_P_108 : Cond.methodLink "SandLorry$Tape" 108 k_JS_length.1 ∈ TG := TG_at 421 (by decide +kernel) (by decide +kernel)
theorem ml_JS_335 : Cond.methodLink "java/lang/String" 335 k_JS_coder.1 ∈ TG := TG_at 425 (by decide +kernel) (by decide +kernel)
theorem ml_P_112 : Cond.methodLink "SandLorry$Tape" 112 k_JS_charAt.1 ∈ TG := TG_at 431 (by decide +kernel) (by decide +kernel)
theorem ml_JS_492 : Cond.methodLink "java/lang/String" 492 k_JS_isLatin1.1 ∈ TG := TG_at 435 (by decide +kernel) (by decide +kernel)
theorem ml_JS_495 : Cond.methodLink "java/lang/String" 495 k_JL_charAt.1 ∈ TG := TG_at 439 (by decide +kernel) (by decide +kernel)
theorem ml_JL_9 : Cond.methodLink "java/lang/StringLatin1" 9 k_JS_checkIndex.1 ∈ TG := TG_at 442 (by decide +kernel) (by decide +kernel)
theorem ml_JS_1059 : Cond.methodLink "java/lang/String" 1059 k_JP_checkIndex.1 ∈ TG := TG_at 447 (by decide +kernel) (by decide +kernel)
theorem ml_JS_498 : Cond.methodLink "java/lang/String" 498 k_JU_charAt.1 ∈ TG := TG_at 450 (by decide +kernel) (by decide +kernel)
theorem ml_JU_67 : Cond.methodLink "java/lang/StringUTF16" 67 k_JU_checkIndex.1 ∈ TG := TG_at 453 (by decide +kernel) (by decide +kernel)
theorem ml_JU_48 : Cond.methodLink "java/lang/StringUTF16" 48 k_JU_length.1 ∈ TG := TG_at 456 (by decide +kernel) (by decide +kernel)
theorem ml_JU_414 : Cond.methodLink "java/lang/StringUTF16" 414 k_JS_checkIndex.1 ∈ TG := TG_at 459 (by decide +kernel) (by decide +kernel)
theorem ml_JU_71 : Cond.methodLink "java/lang/StringUTF16" 71 k_JU_getChar.1 ∈ TG := TG_at 460 (by decide +kernel) (by decide +kernel)
theorem ml_P_39 : Cond.methodLink "SandLorry$Tape" 39 k_P_readEfforts.1 ∈ TG := TG_at 469 (by decide +kernel) (by decide +kernel)
theorem ml_P_49 : Cond.methodLink "SandLorry$Tape" 49 k_C_hasRoomFor.1 ∈ TG := TG_at 473 (by decide +kernel) (by decide +kernel)
theorem ml_P_58 : Cond.methodLink "SandLorry$Tape" 58 k_C_addToPlan.1 ∈ TG := TG_at 477 (by decide +kernel) (by decide +kernel)
theorem ml_P_43 : Cond.methodLink "SandLorry$Tape" 43 k_P_readSand.1 ∈ TG := TG_at 481 (by decide +kernel) (by decide +kernel)
theorem ml_P_46 : Cond.methodLink "SandLorry$Tape" 46 k_P_readNumber.1 ∈ TG := TG_at 486 (by decide +kernel) (by decide +kernel)
theorem ml_law_80 : Cond.methodLink "SandLorryLaw" 80 k_S_planOf.1 ∈ TG := TG_at 493 (by decide +kernel) (by decide +kernel)
theorem ml_law_84 : Cond.methodLink "SandLorryLaw" 84 k_S_clear.1 ∈ TG := TG_at 497 (by decide +kernel) (by decide +kernel)
theorem ml_law_88 : Cond.methodLink "SandLorryLaw" 88 k_S_follow.1 ∈ TG := TG_at 501 (by decide +kernel) (by decide +kernel)
theorem ml_S_157 : Cond.methodLink "SandLorry" 157 k_C_planDoneBy.1 ∈ TG := TG_at 505 (by decide +kernel) (by decide +kernel)
theorem ml_C_58 : Cond.methodLink "SandLorry$Scene" 58 k_C_isStepDoneBy.1 ∈ TG := TG_at 509 (by decide +kernel) (by decide +kernel)
theorem ml_C_62 : Cond.methodLink "SandLorry$Scene" 62 k_L_carriesOut.1 ∈ TG := TG_at 513 (by decide +kernel) (by decide +kernel)
theorem ml_law_92 : Cond.methodLink "SandLorryLaw" 92 k_S_plans.1 ∈ TG := TG_at 514 (by decide +kernel) (by decide +kernel)
theorem ml_law_96 : Cond.methodLink "SandLorryLaw" 96 k_S_best.1 ∈ TG := TG_at 518 (by decide +kernel) (by decide +kernel)
theorem ml_S_161 : Cond.methodLink "SandLorry" 161 k_H_begin.1 ∈ TG := TG_at 522 (by decide +kernel) (by decide +kernel)
theorem ml_H_20 : Cond.methodLink "SandLorry$Search" 20 k_L_become.1 ∈ TG := TG_at 526 (by decide +kernel) (by decide +kernel)
theorem ml_H_28 : Cond.methodLink "SandLorry$Search" 28 k_H_weigh.1 ∈ TG := TG_at 530 (by decide +kernel) (by decide +kernel)
theorem ml_H_40 : Cond.methodLink "SandLorry$Search" 40 k_L_since.1 ∈ TG := TG_at 534 (by decide +kernel) (by decide +kernel)
theorem ml_H_32 : Cond.methodLink "SandLorry$Search" 32 k_L_carriesOut.1 ∈ TG := TG_at 535 (by decide +kernel) (by decide +kernel)
theorem ml_H_36 : Cond.methodLink "SandLorry$Search" 36 k_H_tryRows.1 ∈ TG := TG_at 536 (by decide +kernel) (by decide +kernel)
theorem ml_law_100 : Cond.methodLink "SandLorryLaw" 100 k_S_airFor.1 ∈ TG := TG_at 537 (by decide +kernel) (by decide +kernel)
theorem ml_law_104 : Cond.methodLink "SandLorryLaw" 104 k_S_sacksFor.1 ∈ TG := TG_at 541 (by decide +kernel) (by decide +kernel)
theorem ml_S_181 : Cond.methodLink "SandLorry" 181 k_S_weightOf.1 ∈ TG := TG_at 545 (by decide +kernel) (by decide +kernel)
theorem ml_law_108 : Cond.methodLink "SandLorryLaw" 108 k_S_waterFor.1 ∈ TG := TG_at 546 (by decide +kernel) (by decide +kernel)
theorem ml_law_112 : Cond.methodLink "SandLorryLaw" 112 k_S_boardsFor.1 ∈ TG := TG_at 550 (by decide +kernel) (by decide +kernel)
theorem ml_law_116 : Cond.methodLink "SandLorryLaw" 116 k_S_way.1 ∈ TG := TG_at 554 (by decide +kernel) (by decide +kernel)
theorem ml_law_120 : Cond.methodLink "SandLorryLaw" 120 k_S_odds.1 ∈ TG := TG_at 558 (by decide +kernel) (by decide +kernel)
theorem ml_law_124 : Cond.methodLink "SandLorryLaw" 124 k_S_seed.1 ∈ TG := TG_at 562 (by decide +kernel) (by decide +kernel)
theorem ml_law_128 : Cond.methodLink "SandLorryLaw" 128 k_S_hold.1 ∈ TG := TG_at 566 (by decide +kernel) (by decide +kernel)
theorem ml_S_187 : Cond.methodLink "SandLorry" 187 k_S_isSpot.1 ∈ TG := TG_at 570 (by decide +kernel) (by decide +kernel)
theorem ml_law_132 : Cond.methodLink "SandLorryLaw" 132 k_S_as.1 ∈ TG := TG_at 573 (by decide +kernel) (by decide +kernel)
theorem ml_S_193 : Cond.methodLink "SandLorry" 193 k_S_isOfKind.1 ∈ TG := TG_at 577 (by decide +kernel) (by decide +kernel)
theorem ml_law_136 : Cond.methodLink "SandLorryLaw" 136 k_S_sheet.1 ∈ TG := TG_at 578 (by decide +kernel) (by decide +kernel)
theorem ml_S_197 : Cond.methodLink "SandLorry" 197 k_S_isSheet.1 ∈ TG := TG_at 582 (by decide +kernel) (by decide +kernel)
theorem ml_S_200 : Cond.methodLink "SandLorry" 200 k_T_renew.1 ∈ TG := TG_at 585 (by decide +kernel) (by decide +kernel)
theorem ml_T_19 : Cond.methodLink "SandLorry$Sheet" 19 k_JA_fill.1 ∈ TG := TG_at 589 (by decide +kernel) (by decide +kernel)
theorem ml_T_25 : Cond.methodLink "SandLorry$Sheet" 25 k_T_isMissing.1 ∈ TG := TG_at 590 (by decide +kernel) (by decide +kernel)
theorem ml_law_141 : Cond.methodLink "SandLorryLaw" 141 k_S_write.1 ∈ TG := TG_at 594 (by decide +kernel) (by decide +kernel)
theorem ml_S_207 : Cond.methodLink "SandLorry" 207 k_T_isMissing.1 ∈ TG := TG_at 598 (by decide +kernel) (by decide +kernel)
theorem ml_S_210 : Cond.methodLink "SandLorry" 210 k_T_hasAll.1 ∈ TG := TG_at 599 (by decide +kernel) (by decide +kernel)
theorem ml_S_216 : Cond.methodLink "SandLorry" 216 k_T_fitted.1 ∈ TG := TG_at 603 (by decide +kernel) (by decide +kernel)
theorem ml_law_145 : Cond.methodLink "SandLorryLaw" 145 k_S_copy.1 ∈ TG := TG_at 607 (by decide +kernel) (by decide +kernel)
theorem ml_S_222 : Cond.methodLink "SandLorry" 222 arraycopyName ∈ TG := TG_at 611 (by decide +kernel) (by decide +kernel)
theorem ml_law_150 : Cond.methodLink "SandLorryLaw" 150 k_S_load.1 ∈ TG := TG_at 612 (by decide +kernel) (by decide +kernel)
theorem ml_S_228 : Cond.methodLink "SandLorry" 228 Lib.Math.min.name ∈ TG := TG_at 616 (by decide +kernel) (by decide +kernel)
theorem ml_law_154 : Cond.methodLink "SandLorryLaw" 154 k_S_judge.1 ∈ TG := TG_at 617 (by decide +kernel) (by decide +kernel)
theorem ml_S_233 : Cond.methodLink "SandLorry" 233 k_C_isStepDoneBy.1 ∈ TG := TG_at 621 (by decide +kernel) (by decide +kernel)
theorem ml_law_158 : Cond.methodLink "SandLorryLaw" 158 k_S_image.1 ∈ TG := TG_at 622 (by decide +kernel) (by decide +kernel)
theorem ml_law_162 : Cond.methodLink "SandLorryLaw" 162 k_S_undo.1 ∈ TG := TG_at 626 (by decide +kernel) (by decide +kernel)
theorem ml_law_166 : Cond.methodLink "SandLorryLaw" 166 k_S_tear.1 ∈ TG := TG_at 630 (by decide +kernel) (by decide +kernel)
theorem ml_law_170 : Cond.methodLink "SandLorryLaw" 170 k_S_count.1 ∈ TG := TG_at 634 (by decide +kernel) (by decide +kernel)
theorem ml_S_240 : Cond.methodLink "SandLorry" 240 k_S_filledOf.1 ∈ TG := TG_at 638 (by decide +kernel) (by decide +kernel)
theorem ml_law_174 : Cond.methodLink "SandLorryLaw" 174 k_S_status.1 ∈ TG := TG_at 641 (by decide +kernel) (by decide +kernel)
theorem ml_law_12 : Cond.methodLink "SandLorryLaw" 12 k_M_init.1 ∈ TG := TG_at 647 (by decide +kernel) (by decide +kernel)
theorem ml_M_1 : Cond.methodLink "SandLorryModel" 1 Lib.objectInit ∈ TG := TG_at 650 (by decide +kernel) (by decide +kernel)
theorem fl_M_7 : FLk "SandLorryModel" 7 6 0 := ⟨_, rfl, by decide, rfl, TG_at 651 (by decide +kernel) (by decide +kernel)⟩
theorem fl_M_13 : FLk "SandLorryModel" 13 6 1 := ⟨_, rfl, by decide, rfl, TG_at 652 (by decide +kernel) (by decide +kernel)⟩
theorem fl_M_16 : FLk "SandLorryModel" 16 6 2 := ⟨_, rfl, by decide, rfl, TG_at 653 (by decide +kernel) (by decide +kernel)⟩
theorem fl_M_236 : FLk "SandLorryModel" 236 6 3 := ⟨_, rfl, by decide, rfl, TG_at 654 (by decide +kernel) (by decide +kernel)⟩
theorem fl_M_19 : FLk "SandLorryModel" 19 6 4 := ⟨_, rfl, by decide, rfl, TG_at 655 (by decide +kernel) (by decide +kernel)⟩
theorem fl_M_22 : FLk "SandLorryModel" 22 6 5 := ⟨_, rfl, by decide, rfl, TG_at 656 (by decide +kernel) (by decide +kernel)⟩
theorem fl_M_136 : FLk "SandLorryModel" 136 6 6 := ⟨_, rfl, by decide, rfl, TG_at 657 (by decide +kernel) (by decide +kernel)⟩
theorem fl_M_140 : FLk "SandLorryModel" 140 6 7 := ⟨_, rfl, by decide, rfl, TG_at 658 (by decide +kernel) (by decide +kernel)⟩
theorem fl_M_149 : FLk "SandLorryModel" 149 6 8 := ⟨_, rfl, by decide, rfl, TG_at 659 (by decide +kernel) (by decide +kernel)⟩
theorem fl_M_146 : FLk "SandLorryModel" 146 6 9 := ⟨_, rfl, by decide, rfl, TG_at 660 (by decide +kernel) (by decide +kernel)⟩
theorem fl_M_152 : FLk "SandLorryModel" 152 6 10 := ⟨_, rfl, by decide, rfl, TG_at 661 (by decide +kernel) (by decide +kernel)⟩
theorem fl_M_25 : FLk "SandLorryModel" 25 6 11 := ⟨_, rfl, by decide, rfl, TG_at 662 (by decide +kernel) (by decide +kernel)⟩
theorem fl_M_28 : FLk "SandLorryModel" 28 6 12 := ⟨_, rfl, by decide, rfl, TG_at 663 (by decide +kernel) (by decide +kernel)⟩
theorem fl_M_31 : FLk "SandLorryModel" 31 6 13 := ⟨_, rfl, by decide, rfl, TG_at 664 (by decide +kernel) (by decide +kernel)⟩
theorem fl_M_34 : FLk "SandLorryModel" 34 6 14 := ⟨_, rfl, by decide, rfl, TG_at 665 (by decide +kernel) (by decide +kernel)⟩
theorem fl_M_37 : FLk "SandLorryModel" 37 6 15 := ⟨_, rfl, by decide, rfl, TG_at 666 (by decide +kernel) (by decide +kernel)⟩
theorem ml_law_17 : Cond.methodLink "SandLorryLaw" 17 k_M_sand.1 ∈ TG := TG_at 700 (by decide +kernel) (by decide +kernel)
theorem ml_M_49 : Cond.methodLink "SandLorryModel" 49 k_M_isYard.1 ∈ TG := TG_at 704 (by decide +kernel) (by decide +kernel)
theorem ml_M_45 : Cond.methodLink "SandLorryModel" 45 k_M_in.1 ∈ TG := TG_at 707 (by decide +kernel) (by decide +kernel)
theorem ml_M_61 : Cond.methodLink "SandLorryModel" 61 k_M_finding.1 ∈ TG := TG_at 710 (by decide +kernel) (by decide +kernel)
theorem cn_M_40 : Cond.constant "SandLorryModel" 40 (-1000001) ∈ TG := TG_at 714 (by decide +kernel) (by decide +kernel)
theorem ml_law_21 : Cond.methodLink "SandLorryLaw" 21 k_M_yardOf.1 ∈ TG := TG_at 715 (by decide +kernel) (by decide +kernel)
theorem ml_M_65 : Cond.methodLink "SandLorryModel" 65 k_M_grip.1 ∈ TG := TG_at 719 (by decide +kernel) (by decide +kernel)
theorem ml_M_57 : Cond.methodLink "SandLorryModel" 57 k_M_gripOf.1 ∈ TG := TG_at 723 (by decide +kernel) (by decide +kernel)
theorem ml_M_53 : Cond.methodLink "SandLorryModel" 53 k_M_hour.1 ∈ TG := TG_at 727 (by decide +kernel) (by decide +kernel)
theorem ml_law_25 : Cond.methodLink "SandLorryLaw" 25 k_M_set.1 ∈ TG := TG_at 731 (by decide +kernel) (by decide +kernel)
theorem ml_M_71 : Cond.methodLink "SandLorryModel" 71 k_M_isSet.1 ∈ TG := TG_at 735 (by decide +kernel) (by decide +kernel)
theorem ml_M_68 : Cond.methodLink "SandLorryModel" 68 k_M_mostOf.1 ∈ TG := TG_at 738 (by decide +kernel) (by decide +kernel)
theorem ml_law_30 : Cond.methodLink "SandLorryLaw" 30 k_M_now.1 ∈ TG := TG_at 741 (by decide +kernel) (by decide +kernel)
theorem ml_M_75 : Cond.methodLink "SandLorryModel" 75 k_M_heat.1 ∈ TG := TG_at 745 (by decide +kernel) (by decide +kernel)
theorem ml_M_78 : Cond.methodLink "SandLorryModel" 78 k_M_weight.1 ∈ TG := TG_at 749 (by decide +kernel) (by decide +kernel)
theorem ml_M_81 : Cond.methodLink "SandLorryModel" 81 k_M_isOut.1 ∈ TG := TG_at 753 (by decide +kernel) (by decide +kernel)
theorem ml_law_34 : Cond.methodLink "SandLorryLaw" 34 k_M_soft.1 ∈ TG := TG_at 757 (by decide +kernel) (by decide +kernel)
theorem ml_law_38 : Cond.methodLink "SandLorryLaw" 38 k_M_wind.1 ∈ TG := TG_at 761 (by decide +kernel) (by decide +kernel)
theorem ml_M_86 : Cond.methodLink "SandLorryModel" 86 k_M_draw.1 ∈ TG := TG_at 765 (by decide +kernel) (by decide +kernel)
theorem cn_M_85 : Cond.constant "SandLorryModel" 85 (1103515245) ∈ TG := TG_at 769 (by decide +kernel) (by decide +kernel)
theorem ml_M_89 : Cond.methodLink "SandLorryModel" 89 k_M_allFirm.1 ∈ TG := TG_at 770 (by decide +kernel) (by decide +kernel)
theorem ml_law_42 : Cond.methodLink "SandLorryLaw" 42 k_M_effort.1 ∈ TG := TG_at 774 (by decide +kernel) (by decide +kernel)
theorem ml_M_108 : Cond.methodLink "SandLorryModel" 108 k_M_isSlot.1 ∈ TG := TG_at 778 (by decide +kernel) (by decide +kernel)
theorem ml_M_111 : Cond.methodLink "SandLorryModel" 111 k_M_isKind.1 ∈ TG := TG_at 781 (by decide +kernel) (by decide +kernel)
theorem ml_law_46 : Cond.methodLink "SandLorryLaw" 46 k_M_effortOf.1 ∈ TG := TG_at 784 (by decide +kernel) (by decide +kernel)
theorem ml_M_95 : Cond.methodLink "SandLorryModel" 95 k_M_minutesOf.1 ∈ TG := TG_at 788 (by decide +kernel) (by decide +kernel)
theorem ml_M_92 : Cond.methodLink "SandLorryModel" 92 k_M_workOf.1 ∈ TG := TG_at 792 (by decide +kernel) (by decide +kernel)
theorem ml_M_98 : Cond.methodLink "SandLorryModel" 98 k_M_drinks.1 ∈ TG := TG_at 795 (by decide +kernel) (by decide +kernel)
theorem ml_law_50 : Cond.methodLink "SandLorryLaw" 50 k_M_go.1 ∈ TG := TG_at 799 (by decide +kernel) (by decide +kernel)
theorem ml_M_114 : Cond.methodLink "SandLorryModel" 114 k_M_canDo.1 ∈ TG := TG_at 803 (by decide +kernel) (by decide +kernel)
theorem ml_M_117 : Cond.methodLink "SandLorryModel" 117 k_M_does.1 ∈ TG := TG_at 807 (by decide +kernel) (by decide +kernel)
theorem ml_M_101 : Cond.methodLink "SandLorryModel" 101 k_M_digs.1 ∈ TG := TG_at 811 (by decide +kernel) (by decide +kernel)
theorem ml_M_104 : Cond.methodLink "SandLorryModel" 104 k_M_pushes.1 ∈ TG := TG_at 815 (by decide +kernel) (by decide +kernel)
theorem ml_law_54 : Cond.methodLink "SandLorryLaw" 54 k_M_gives.1 ∈ TG := TG_at 819 (by decide +kernel) (by decide +kernel)
theorem ml_M_124 : Cond.methodLink "SandLorryModel" 124 k_M_begin.1 ∈ TG := TG_at 823 (by decide +kernel) (by decide +kernel)
theorem ml_M_41 : Cond.methodLink "SandLorryModel" 41 k_M_lay.1 ∈ TG := TG_at 827 (by decide +kernel) (by decide +kernel)
theorem ml_M_127 : Cond.methodLink "SandLorryModel" 127 k_M_became.1 ∈ TG := TG_at 830 (by decide +kernel) (by decide +kernel)
theorem ml_M_121 : Cond.methodLink "SandLorryModel" 121 k_M_layBack.1 ∈ TG := TG_at 834 (by decide +kernel) (by decide +kernel)
theorem ml_law_58 : Cond.methodLink "SandLorryLaw" 58 k_M_lasts.1 ∈ TG := TG_at 838 (by decide +kernel) (by decide +kernel)
theorem ml_M_130 : Cond.methodLink "SandLorryModel" 130 k_M_again.1 ∈ TG := TG_at 842 (by decide +kernel) (by decide +kernel)
theorem ml_law_62 : Cond.methodLink "SandLorryLaw" 62 k_M_out.1 ∈ TG := TG_at 846 (by decide +kernel) (by decide +kernel)
theorem ml_M_133 : Cond.methodLink "SandLorryModel" 133 k_M_outBy.1 ∈ TG := TG_at 850 (by decide +kernel) (by decide +kernel)
theorem ml_law_66 : Cond.methodLink "SandLorryLaw" 66 k_M_when.1 ∈ TG := TG_at 854 (by decide +kernel) (by decide +kernel)
theorem ml_law_70 : Cond.methodLink "SandLorryLaw" 70 k_M_feed.1 ∈ TG := TG_at 858 (by decide +kernel) (by decide +kernel)
theorem ml_law_75 : Cond.methodLink "SandLorryLaw" 75 k_M_wipe.1 ∈ TG := TG_at 862 (by decide +kernel) (by decide +kernel)
theorem ml_law_79 : Cond.methodLink "SandLorryLaw" 79 k_M_text.1 ∈ TG := TG_at 866 (by decide +kernel) (by decide +kernel)
theorem ml_M_214 : Cond.methodLink "SandLorryModel" 214 k_M_takesAll.1 ∈ TG := TG_at 870 (by decide +kernel) (by decide +kernel)
theorem ml_M_164 : Cond.methodLink "SandLorryModel" 164 k_M_next.1 ∈ TG := TG_at 874 (by decide +kernel) (by decide +kernel)
theorem ml_M_143 : Cond.methodLink "SandLorryModel" 143 k_M_byteAt.1 ∈ TG := TG_at 878 (by decide +kernel) (by decide +kernel)
theorem ml_M_211 : Cond.methodLink "SandLorryModel" 211 k_M_takesItem.1 ∈ TG := TG_at 882 (by decide +kernel) (by decide +kernel)
theorem ml_M_172 : Cond.methodLink "SandLorryModel" 172 k_M_isWord.1 ∈ TG := TG_at 887 (by decide +kernel) (by decide +kernel)
theorem ml_M_155 : Cond.methodLink "SandLorryModel" 155 k_JS_length.1 ∈ TG := TG_at 891 (by decide +kernel) (by decide +kernel)
theorem ml_M_160 : Cond.methodLink "SandLorryModel" 160 k_JS_charAt.1 ∈ TG := TG_at 892 (by decide +kernel) (by decide +kernel)
theorem ml_M_176 : Cond.methodLink "SandLorryModel" 176 k_M_takesSand.1 ∈ TG := TG_at 893 (by decide +kernel) (by decide +kernel)
theorem ml_M_167 : Cond.methodLink "SandLorryModel" 167 k_M_isNumber.1 ∈ TG := TG_at 897 (by decide +kernel) (by decide +kernel)
theorem ml_M_189 : Cond.methodLink "SandLorryModel" 189 k_M_takesSet.1 ∈ TG := TG_at 906 (by decide +kernel) (by decide +kernel)
theorem ml_M_208 : Cond.methodLink "SandLorryModel" 208 k_M_takesKind.1 ∈ TG := TG_at 918 (by decide +kernel) (by decide +kernel)
theorem ml_law_83 : Cond.methodLink "SandLorryLaw" 83 k_M_planOf.1 ∈ TG := TG_at 922 (by decide +kernel) (by decide +kernel)
theorem ml_law_87 : Cond.methodLink "SandLorryLaw" 87 k_M_clear.1 ∈ TG := TG_at 926 (by decide +kernel) (by decide +kernel)
theorem ml_law_91 : Cond.methodLink "SandLorryLaw" 91 k_M_follow.1 ∈ TG := TG_at 930 (by decide +kernel) (by decide +kernel)
theorem ml_M_217 : Cond.methodLink "SandLorryModel" 217 k_M_follows.1 ∈ TG := TG_at 934 (by decide +kernel) (by decide +kernel)
theorem ml_law_95 : Cond.methodLink "SandLorryLaw" 95 k_M_plans.1 ∈ TG := TG_at 938 (by decide +kernel) (by decide +kernel)
theorem ml_law_99 : Cond.methodLink "SandLorryLaw" 99 k_M_best.1 ∈ TG := TG_at 942 (by decide +kernel) (by decide +kernel)
theorem ml_M_220 : Cond.methodLink "SandLorryModel" 220 k_M_doesRow.1 ∈ TG := TG_at 946 (by decide +kernel) (by decide +kernel)
theorem ml_M_223 : Cond.methodLink "SandLorryModel" 223 k_M_digits.1 ∈ TG := TG_at 950 (by decide +kernel) (by decide +kernel)
theorem ml_law_103 : Cond.methodLink "SandLorryLaw" 103 k_M_airFor.1 ∈ TG := TG_at 953 (by decide +kernel) (by decide +kernel)
theorem ml_law_107 : Cond.methodLink "SandLorryLaw" 107 k_M_sacksFor.1 ∈ TG := TG_at 957 (by decide +kernel) (by decide +kernel)
theorem ml_law_111 : Cond.methodLink "SandLorryLaw" 111 k_M_waterFor.1 ∈ TG := TG_at 961 (by decide +kernel) (by decide +kernel)
theorem cn_M_226 : Cond.constant "SandLorryModel" 226 (999999) ∈ TG := TG_at 965 (by decide +kernel) (by decide +kernel)
theorem ml_law_115 : Cond.methodLink "SandLorryLaw" 115 k_M_boardsFor.1 ∈ TG := TG_at 966 (by decide +kernel) (by decide +kernel)
theorem ml_law_119 : Cond.methodLink "SandLorryLaw" 119 k_M_way.1 ∈ TG := TG_at 970 (by decide +kernel) (by decide +kernel)
theorem ml_law_123 : Cond.methodLink "SandLorryLaw" 123 k_M_odds.1 ∈ TG := TG_at 974 (by decide +kernel) (by decide +kernel)
theorem ml_law_127 : Cond.methodLink "SandLorryLaw" 127 k_M_seed.1 ∈ TG := TG_at 978 (by decide +kernel) (by decide +kernel)
theorem ml_law_131 : Cond.methodLink "SandLorryLaw" 131 k_M_hold.1 ∈ TG := TG_at 982 (by decide +kernel) (by decide +kernel)
theorem ml_law_135 : Cond.methodLink "SandLorryLaw" 135 k_M_as.1 ∈ TG := TG_at 986 (by decide +kernel) (by decide +kernel)
theorem ml_M_227 : Cond.methodLink "SandLorryModel" 227 k_M_isUnder.1 ∈ TG := TG_at 990 (by decide +kernel) (by decide +kernel)
theorem ml_law_140 : Cond.methodLink "SandLorryLaw" 140 k_M_sheet.1 ∈ TG := TG_at 993 (by decide +kernel) (by decide +kernel)
theorem ml_M_230 : Cond.methodLink "SandLorryModel" 230 k_M_isSheet.1 ∈ TG := TG_at 997 (by decide +kernel) (by decide +kernel)
theorem ml_law_144 : Cond.methodLink "SandLorryLaw" 144 k_M_write.1 ∈ TG := TG_at 1000 (by decide +kernel) (by decide +kernel)
theorem ml_law_149 : Cond.methodLink "SandLorryLaw" 149 k_M_copy.1 ∈ TG := TG_at 1004 (by decide +kernel) (by decide +kernel)
theorem ml_law_153 : Cond.methodLink "SandLorryLaw" 153 k_M_load.1 ∈ TG := TG_at 1008 (by decide +kernel) (by decide +kernel)
theorem ml_M_233 : Cond.methodLink "SandLorryModel" 233 k_M_lacks.1 ∈ TG := TG_at 1012 (by decide +kernel) (by decide +kernel)
theorem ml_law_157 : Cond.methodLink "SandLorryLaw" 157 k_M_judge.1 ∈ TG := TG_at 1016 (by decide +kernel) (by decide +kernel)
theorem ml_law_161 : Cond.methodLink "SandLorryLaw" 161 k_M_image.1 ∈ TG := TG_at 1020 (by decide +kernel) (by decide +kernel)
theorem ml_law_165 : Cond.methodLink "SandLorryLaw" 165 k_M_undo.1 ∈ TG := TG_at 1024 (by decide +kernel) (by decide +kernel)
theorem ml_law_169 : Cond.methodLink "SandLorryLaw" 169 k_M_tear.1 ∈ TG := TG_at 1028 (by decide +kernel) (by decide +kernel)
theorem ml_law_173 : Cond.methodLink "SandLorryLaw" 173 k_M_count.1 ∈ TG := TG_at 1032 (by decide +kernel) (by decide +kernel)
theorem ml_M_240 : Cond.methodLink "SandLorryModel" 240 k_M_told.1 ∈ TG := TG_at 1036 (by decide +kernel) (by decide +kernel)
theorem ml_law_177 : Cond.methodLink "SandLorryLaw" 177 k_M_status.1 ∈ TG := TG_at 1040 (by decide +kernel) (by decide +kernel)
theorem nl_S_48 : (("SandLorry", 48, k_P_init.1, "SandLorry") : String × Nat × MethodName × String) ∈ nests := List.mem_of_getElem? (i := 0) (by decide +kernel)
theorem nl_S_55 : (("SandLorry", 55, k_T_init.1, "SandLorry") : String × Nat × MethodName × String) ∈ nests := List.mem_of_getElem? (i := 1) (by decide +kernel)
theorem nl_L_32 : (("SandLorry$Lorry", 32, k_S_weightOf.1, "SandLorry") : String × Nat × MethodName × String) ∈ nests := List.mem_of_getElem? (i := 2) (by decide +kernel)
theorem nl_L_24 : (("SandLorry$Lorry", 24, k_S_isYard.1, "SandLorry") : String × Nat × MethodName × String) ∈ nests := List.mem_of_getElem? (i := 3) (by decide +kernel)
theorem nl_L_36 : (("SandLorry$Lorry", 36, k_S_workOf.1, "SandLorry") : String × Nat × MethodName × String) ∈ nests := List.mem_of_getElem? (i := 4) (by decide +kernel)
theorem nl_L_53 : (("SandLorry$Lorry", 53, k_S_isOfKind.1, "SandLorry") : String × Nat × MethodName × String) ∈ nests := List.mem_of_getElem? (i := 5) (by decide +kernel)
theorem nl_P_62 : (("SandLorry$Tape", 62, k_S_isYard.1, "SandLorry") : String × Nat × MethodName × String) ∈ nests := List.mem_of_getElem? (i := 6) (by decide +kernel)
theorem nl_P_68 : (("SandLorry$Tape", 68, k_S_leastOf.1, "SandLorry") : String × Nat × MethodName × String) ∈ nests := List.mem_of_getElem? (i := 7) (by decide +kernel)
theorem nl_P_72 : (("SandLorry$Tape", 72, k_S_mostOf.1, "SandLorry") : String × Nat × MethodName × String) ∈ nests := List.mem_of_getElem? (i := 8) (by decide +kernel)
theorem nl_S_164 : (("SandLorry", 164, k_H_tryRows.1, "SandLorry") : String × Nat × MethodName × String) ∈ nests := List.mem_of_getElem? (i := 9) (by decide +kernel)
theorem ck_S_init : CalK k_S_init 0 := ⟨TG_at 1 (by decide +kernel) (by decide +kernel), TG_at 19 (by decide +kernel) (by decide +kernel), by decide +kernel, ⟨by decide +kernel, by decide +kernel⟩, by decide +kernel, by decide⟩
theorem ik_S_init : InsK k_S_init 0 := ⟨ck_S_init, TG_at 18 (by decide +kernel) (by decide +kernel), by decide⟩
theorem ck_C_init : CalK k_C_init 0 := ⟨TG_at 2 (by decide +kernel) (by decide +kernel), TG_at 27 (by decide +kernel) (by decide +kernel), by decide +kernel, ⟨by decide +kernel, by decide +kernel⟩, by decide +kernel, by decide⟩
theorem ik_C_init : InsK k_C_init 0 := ⟨ck_C_init, TG_at 26 (by decide +kernel) (by decide +kernel), by decide⟩
theorem ck_L_init : CalK k_L_init 1 := ⟨TG_at 3 (by decide +kernel) (by decide +kernel), TG_at 33 (by decide +kernel) (by decide +kernel), by decide +kernel, ⟨by decide +kernel, by decide +kernel⟩, by decide +kernel, by decide⟩
theorem ik_L_init : InsK k_L_init 1 := ⟨ck_L_init, TG_at 32 (by decide +kernel) (by decide +kernel), by decide⟩
theorem ck_JA_fill : CalK k_JA_fill 2 := ⟨TG_at 4 (by decide +kernel) (by decide +kernel), TG_at 48 (by decide +kernel) (by decide +kernel), by decide +kernel, ⟨by decide +kernel, by decide +kernel⟩, by decide +kernel, by decide⟩
theorem sk_JA_fill : StaK k_JA_fill 2 := ⟨ck_JA_fill, TG_at 47 (by decide +kernel) (by decide +kernel), by decide⟩
theorem ck_H_init : CalK k_H_init 1 := ⟨TG_at 5 (by decide +kernel) (by decide +kernel), TG_at 86 (by decide +kernel) (by decide +kernel), by decide +kernel, ⟨by decide +kernel, by decide +kernel⟩, by decide +kernel, by decide⟩
theorem ik_H_init : InsK k_H_init 1 := ⟨ck_H_init, TG_at 85 (by decide +kernel) (by decide +kernel), by decide⟩
theorem ck_P_init : CalK k_P_init 0 := ⟨TG_at 6 (by decide +kernel) (by decide +kernel), TG_at 115 (by decide +kernel) (by decide +kernel), by decide +kernel, ⟨by decide +kernel, by decide +kernel⟩, by decide +kernel, by decide⟩
theorem ik_P_init : InsK k_P_init 0 := ⟨ck_P_init, TG_at 114 (by decide +kernel) (by decide +kernel), by decide⟩
theorem ck_T_init : CalK k_T_init 0 := ⟨TG_at 7 (by decide +kernel) (by decide +kernel), TG_at 142 (by decide +kernel) (by decide +kernel), by decide +kernel, ⟨by decide +kernel, by decide +kernel⟩, by decide +kernel, by decide⟩
theorem ik_T_init : InsK k_T_init 0 := ⟨ck_T_init, TG_at 141 (by decide +kernel) (by decide +kernel), by decide⟩
theorem ck_S_sand : CalK k_S_sand 2 := ⟨TG_at 1 (by decide +kernel) (by decide +kernel), TG_at 191 (by decide +kernel) (by decide +kernel), by decide +kernel, ⟨by decide +kernel, by decide +kernel⟩, by decide +kernel, by decide⟩
theorem ik_S_sand : InsK k_S_sand 2 := ⟨ck_S_sand, TG_at 189 (by decide +kernel) (by decide +kernel), by decide⟩
theorem vk_S_sand : VirK k_S_sand 2 := ⟨ik_S_sand, TG_at 190 (by decide +kernel) (by decide +kernel)⟩
theorem ck_S_isYard : CalK k_S_isYard 1 := ⟨TG_at 1 (by decide +kernel) (by decide +kernel), TG_at 194 (by decide +kernel) (by decide +kernel), by decide +kernel, ⟨by decide +kernel, by decide +kernel⟩, by decide +kernel, by decide⟩
theorem sk_S_isYard : StaK k_S_isYard 1 := ⟨ck_S_isYard, TG_at 193 (by decide +kernel) (by decide +kernel), by decide⟩
theorem ck_S_finding : CalK k_S_finding 1 := ⟨TG_at 1 (by decide +kernel) (by decide +kernel), TG_at 198 (by decide +kernel) (by decide +kernel), by decide +kernel, ⟨by decide +kernel, by decide +kernel⟩, by decide +kernel, by decide⟩
theorem ik_S_finding : InsK k_S_finding 1 := ⟨ck_S_finding, TG_at 197 (by decide +kernel) (by decide +kernel), by decide⟩
theorem vk_S_finding : VirK k_S_finding 1 := ⟨ik_S_finding, TG_sel 0 (by decide +kernel) (by decide +kernel)⟩
theorem ck_S_yardOf : CalK k_S_yardOf 2 := ⟨TG_at 1 (by decide +kernel) (by decide +kernel), TG_at 203 (by decide +kernel) (by decide +kernel), by decide +kernel, ⟨by decide +kernel, by decide +kernel⟩, by decide +kernel, by decide⟩
theorem ik_S_yardOf : InsK k_S_yardOf 2 := ⟨ck_S_yardOf, TG_at 201 (by decide +kernel) (by decide +kernel), by decide⟩
theorem vk_S_yardOf : VirK k_S_yardOf 2 := ⟨ik_S_yardOf, TG_at 202 (by decide +kernel) (by decide +kernel)⟩
theorem ck_L_gripOf : CalK k_L_gripOf 2 := ⟨TG_at 3 (by decide +kernel) (by decide +kernel), TG_at 207 (by decide +kernel) (by decide +kernel), by decide +kernel, ⟨by decide +kernel, by decide +kernel⟩, by decide +kernel, by decide⟩
theorem ik_L_gripOf : InsK k_L_gripOf 2 := ⟨ck_L_gripOf, TG_at 205 (by decide +kernel) (by decide +kernel), by decide⟩
theorem vk_L_gripOf : VirK k_L_gripOf 2 := ⟨ik_L_gripOf, TG_at 206 (by decide +kernel) (by decide +kernel)⟩
theorem ck_L_hour : CalK k_L_hour 0 := ⟨TG_at 3 (by decide +kernel) (by decide +kernel), TG_at 211 (by decide +kernel) (by decide +kernel), by decide +kernel, ⟨by decide +kernel, by decide +kernel⟩, by decide +kernel, by decide⟩
theorem ik_L_hour : InsK k_L_hour 0 := ⟨ck_L_hour, TG_at 209 (by decide +kernel) (by decide +kernel), by decide⟩
theorem vk_L_hour : VirK k_L_hour 0 := ⟨ik_L_hour, TG_at 210 (by decide +kernel) (by decide +kernel)⟩
theorem ck_S_set : CalK k_S_set 2 := ⟨TG_at 1 (by decide +kernel) (by decide +kernel), TG_at 215 (by decide +kernel) (by decide +kernel), by decide +kernel, ⟨by decide +kernel, by decide +kernel⟩, by decide +kernel, by decide⟩
theorem ik_S_set : InsK k_S_set 2 := ⟨ck_S_set, TG_at 213 (by decide +kernel) (by decide +kernel), by decide⟩
theorem vk_S_set : VirK k_S_set 2 := ⟨ik_S_set, TG_at 214 (by decide +kernel) (by decide +kernel)⟩
theorem ck_S_leastOf : CalK k_S_leastOf 1 := ⟨TG_at 1 (by decide +kernel) (by decide +kernel), TG_at 218 (by decide +kernel) (by decide +kernel), by decide +kernel, ⟨by decide +kernel, by decide +kernel⟩, by decide +kernel, by decide⟩
theorem sk_S_leastOf : StaK k_S_leastOf 1 := ⟨ck_S_leastOf, TG_at 217 (by decide +kernel) (by decide +kernel), by decide⟩
theorem ck_S_mostOf : CalK k_S_mostOf 1 := ⟨TG_at 1 (by decide +kernel) (by decide +kernel), TG_at 221 (by decide +kernel) (by decide +kernel), by decide +kernel, ⟨by decide +kernel, by decide +kernel⟩, by decide +kernel, by decide⟩
theorem sk_S_mostOf : StaK k_S_mostOf 1 := ⟨ck_S_mostOf, TG_at 220 (by decide +kernel) (by decide +kernel), by decide⟩
theorem ck_S_now : CalK k_S_now 1 := ⟨TG_at 1 (by decide +kernel) (by decide +kernel), TG_at 225 (by decide +kernel) (by decide +kernel), by decide +kernel, ⟨by decide +kernel, by decide +kernel⟩, by decide +kernel, by decide⟩
theorem ik_S_now : InsK k_S_now 1 := ⟨ck_S_now, TG_at 223 (by decide +kernel) (by decide +kernel), by decide⟩
theorem vk_S_now : VirK k_S_now 1 := ⟨ik_S_now, TG_at 224 (by decide +kernel) (by decide +kernel)⟩
theorem ck_L_heat : CalK k_L_heat 0 := ⟨TG_at 3 (by decide +kernel) (by decide +kernel), TG_at 230 (by decide +kernel) (by decide +kernel), by decide +kernel, ⟨by decide +kernel, by decide +kernel⟩, by decide +kernel, by decide⟩
theorem ik_L_heat : InsK k_L_heat 0 := ⟨ck_L_heat, TG_at 228 (by decide +kernel) (by decide +kernel), by decide⟩
theorem vk_L_heat : VirK k_L_heat 0 := ⟨ik_L_heat, TG_at 229 (by decide +kernel) (by decide +kernel)⟩
theorem ck_L_weight : CalK k_L_weight 0 := ⟨TG_at 3 (by decide +kernel) (by decide +kernel), TG_at 234 (by decide +kernel) (by decide +kernel), by decide +kernel, ⟨by decide +kernel, by decide +kernel⟩, by decide +kernel, by decide⟩
theorem ik_L_weight : InsK k_L_weight 0 := ⟨ck_L_weight, TG_at 232 (by decide +kernel) (by decide +kernel), by decide⟩
theorem vk_L_weight : VirK k_L_weight 0 := ⟨ik_L_weight, TG_at 233 (by decide +kernel) (by decide +kernel)⟩
theorem ck_S_weightOf : CalK k_S_weightOf 2 := ⟨TG_at 1 (by decide +kernel) (by decide +kernel), TG_at 237 (by decide +kernel) (by decide +kernel), by decide +kernel, ⟨by decide +kernel, by decide +kernel⟩, by decide +kernel, by decide⟩
theorem sk_S_weightOf : StaK k_S_weightOf 2 := ⟨ck_S_weightOf, TG_at 236 (by decide +kernel) (by decide +kernel), by decide⟩
theorem ck_L_isOut : CalK k_L_isOut 0 := ⟨TG_at 3 (by decide +kernel) (by decide +kernel), TG_at 241 (by decide +kernel) (by decide +kernel), by decide +kernel, ⟨by decide +kernel, by decide +kernel⟩, by decide +kernel, by decide⟩
theorem ik_L_isOut : InsK k_L_isOut 0 := ⟨ck_L_isOut, TG_at 239 (by decide +kernel) (by decide +kernel), by decide⟩
theorem vk_L_isOut : VirK k_L_isOut 0 := ⟨ik_L_isOut, TG_at 240 (by decide +kernel) (by decide +kernel)⟩
theorem ck_S_soft : CalK k_S_soft 2 := ⟨TG_at 1 (by decide +kernel) (by decide +kernel), TG_at 246 (by decide +kernel) (by decide +kernel), by decide +kernel, ⟨by decide +kernel, by decide +kernel⟩, by decide +kernel, by decide⟩
theorem ik_S_soft : InsK k_S_soft 2 := ⟨ck_S_soft, TG_at 244 (by decide +kernel) (by decide +kernel), by decide⟩
theorem vk_S_soft : VirK k_S_soft 2 := ⟨ik_S_soft, TG_at 245 (by decide +kernel) (by decide +kernel)⟩
theorem ck_S_wind : CalK k_S_wind 1 := ⟨TG_at 1 (by decide +kernel) (by decide +kernel), TG_at 250 (by decide +kernel) (by decide +kernel), by decide +kernel, ⟨by decide +kernel, by decide +kernel⟩, by decide +kernel, by decide⟩
theorem ik_S_wind : InsK k_S_wind 1 := ⟨ck_S_wind, TG_at 248 (by decide +kernel) (by decide +kernel), by decide⟩
theorem vk_S_wind : VirK k_S_wind 1 := ⟨ik_S_wind, TG_at 249 (by decide +kernel) (by decide +kernel)⟩
theorem ck_C_draw : CalK k_C_draw 0 := ⟨TG_at 2 (by decide +kernel) (by decide +kernel), TG_at 254 (by decide +kernel) (by decide +kernel), by decide +kernel, ⟨by decide +kernel, by decide +kernel⟩, by decide +kernel, by decide⟩
theorem ik_C_draw : InsK k_C_draw 0 := ⟨ck_C_draw, TG_at 252 (by decide +kernel) (by decide +kernel), by decide⟩
theorem vk_C_draw : VirK k_C_draw 0 := ⟨ik_C_draw, TG_at 253 (by decide +kernel) (by decide +kernel)⟩
theorem ck_C_firmInAll : CalK k_C_firmInAll 0 := ⟨TG_at 2 (by decide +kernel) (by decide +kernel), TG_at 259 (by decide +kernel) (by decide +kernel), by decide +kernel, ⟨by decide +kernel, by decide +kernel⟩, by decide +kernel, by decide⟩
theorem ik_C_firmInAll : InsK k_C_firmInAll 0 := ⟨ck_C_firmInAll, TG_at 257 (by decide +kernel) (by decide +kernel), by decide⟩
theorem vk_C_firmInAll : VirK k_C_firmInAll 0 := ⟨ik_C_firmInAll, TG_at 258 (by decide +kernel) (by decide +kernel)⟩
theorem ck_S_effort : CalK k_S_effort 2 := ⟨TG_at 1 (by decide +kernel) (by decide +kernel), TG_at 263 (by decide +kernel) (by decide +kernel), by decide +kernel, ⟨by decide +kernel, by decide +kernel⟩, by decide +kernel, by decide⟩
theorem ik_S_effort : InsK k_S_effort 2 := ⟨ck_S_effort, TG_at 261 (by decide +kernel) (by decide +kernel), by decide⟩
theorem vk_S_effort : VirK k_S_effort 2 := ⟨ik_S_effort, TG_at 262 (by decide +kernel) (by decide +kernel)⟩
theorem ck_S_isSlot : CalK k_S_isSlot 1 := ⟨TG_at 1 (by decide +kernel) (by decide +kernel), TG_at 266 (by decide +kernel) (by decide +kernel), by decide +kernel, ⟨by decide +kernel, by decide +kernel⟩, by decide +kernel, by decide⟩
theorem sk_S_isSlot : StaK k_S_isSlot 1 := ⟨ck_S_isSlot, TG_at 265 (by decide +kernel) (by decide +kernel), by decide⟩
theorem ck_S_effortOf : CalK k_S_effortOf 2 := ⟨TG_at 1 (by decide +kernel) (by decide +kernel), TG_at 270 (by decide +kernel) (by decide +kernel), by decide +kernel, ⟨by decide +kernel, by decide +kernel⟩, by decide +kernel, by decide⟩
theorem ik_S_effortOf : InsK k_S_effortOf 2 := ⟨ck_S_effortOf, TG_at 268 (by decide +kernel) (by decide +kernel), by decide⟩
theorem vk_S_effortOf : VirK k_S_effortOf 2 := ⟨ik_S_effortOf, TG_at 269 (by decide +kernel) (by decide +kernel)⟩
theorem ck_L_minutesOf : CalK k_L_minutesOf 1 := ⟨TG_at 3 (by decide +kernel) (by decide +kernel), TG_at 274 (by decide +kernel) (by decide +kernel), by decide +kernel, ⟨by decide +kernel, by decide +kernel⟩, by decide +kernel, by decide⟩
theorem ik_L_minutesOf : InsK k_L_minutesOf 1 := ⟨ck_L_minutesOf, TG_at 272 (by decide +kernel) (by decide +kernel), by decide⟩
theorem vk_L_minutesOf : VirK k_L_minutesOf 1 := ⟨ik_L_minutesOf, TG_at 273 (by decide +kernel) (by decide +kernel)⟩
theorem ck_S_workOf : CalK k_S_workOf 1 := ⟨TG_at 1 (by decide +kernel) (by decide +kernel), TG_at 277 (by decide +kernel) (by decide +kernel), by decide +kernel, ⟨by decide +kernel, by decide +kernel⟩, by decide +kernel, by decide⟩
theorem sk_S_workOf : StaK k_S_workOf 1 := ⟨ck_S_workOf, TG_at 276 (by decide +kernel) (by decide +kernel), by decide⟩
theorem ck_L_drinkOf : CalK k_L_drinkOf 1 := ⟨TG_at 3 (by decide +kernel) (by decide +kernel), TG_at 281 (by decide +kernel) (by decide +kernel), by decide +kernel, ⟨by decide +kernel, by decide +kernel⟩, by decide +kernel, by decide⟩
theorem ik_L_drinkOf : InsK k_L_drinkOf 1 := ⟨ck_L_drinkOf, TG_at 279 (by decide +kernel) (by decide +kernel), by decide⟩
theorem vk_L_drinkOf : VirK k_L_drinkOf 1 := ⟨ik_L_drinkOf, TG_at 280 (by decide +kernel) (by decide +kernel)⟩
theorem ck_S_go : CalK k_S_go 1 := ⟨TG_at 1 (by decide +kernel) (by decide +kernel), TG_at 288 (by decide +kernel) (by decide +kernel), by decide +kernel, ⟨by decide +kernel, by decide +kernel⟩, by decide +kernel, by decide⟩
theorem ik_S_go : InsK k_S_go 1 := ⟨ck_S_go, TG_at 286 (by decide +kernel) (by decide +kernel), by decide⟩
theorem vk_S_go : VirK k_S_go 1 := ⟨ik_S_go, TG_at 287 (by decide +kernel) (by decide +kernel)⟩
theorem ck_L_carriesOut : CalK k_L_carriesOut 1 := ⟨TG_at 3 (by decide +kernel) (by decide +kernel), TG_at 292 (by decide +kernel) (by decide +kernel), by decide +kernel, ⟨by decide +kernel, by decide +kernel⟩, by decide +kernel, by decide⟩
theorem ik_L_carriesOut : InsK k_L_carriesOut 1 := ⟨ck_L_carriesOut, TG_at 290 (by decide +kernel) (by decide +kernel), by decide⟩
theorem vk_L_carriesOut : VirK k_L_carriesOut 1 := ⟨ik_L_carriesOut, TG_at 291 (by decide +kernel) (by decide +kernel)⟩
theorem ck_S_isOfKind : CalK k_S_isOfKind 2 := ⟨TG_at 1 (by decide +kernel) (by decide +kernel), TG_at 297 (by decide +kernel) (by decide +kernel), by decide +kernel, ⟨by decide +kernel, by decide +kernel⟩, by decide +kernel, by decide⟩
theorem sk_S_isOfKind : StaK k_S_isOfKind 2 := ⟨ck_S_isOfKind, TG_at 296 (by decide +kernel) (by decide +kernel), by decide⟩
theorem ck_S_kindAbove : CalK k_S_kindAbove 1 := ⟨TG_at 1 (by decide +kernel) (by decide +kernel), TG_at 300 (by decide +kernel) (by decide +kernel), by decide +kernel, ⟨by decide +kernel, by decide +kernel⟩, by decide +kernel, by decide⟩
theorem sk_S_kindAbove : StaK k_S_kindAbove 1 := ⟨ck_S_kindAbove, TG_at 299 (by decide +kernel) (by decide +kernel), by decide⟩
theorem ck_L_drive : CalK k_L_drive 1 := ⟨TG_at 3 (by decide +kernel) (by decide +kernel), TG_at 310 (by decide +kernel) (by decide +kernel), by decide +kernel, ⟨by decide +kernel, by decide +kernel⟩, by decide +kernel, by decide⟩
theorem ik_L_drive : InsK k_L_drive 1 := ⟨ck_L_drive, TG_at 309 (by decide +kernel) (by decide +kernel), by decide⟩
theorem vk_L_drive : VirK k_L_drive 1 := ⟨ik_L_drive, TG_sel 1 (by decide +kernel) (by decide +kernel)⟩
theorem ck_L_push : CalK k_L_push 3 := ⟨TG_at 3 (by decide +kernel) (by decide +kernel), TG_at 314 (by decide +kernel) (by decide +kernel), by decide +kernel, ⟨by decide +kernel, by decide +kernel⟩, by decide +kernel, by decide⟩
theorem ik_L_push : InsK k_L_push 3 := ⟨ck_L_push, TG_at 313 (by decide +kernel) (by decide +kernel), by decide⟩
theorem vk_L_push : VirK k_L_push 3 := ⟨ik_L_push, TG_sel 2 (by decide +kernel) (by decide +kernel)⟩
theorem ck_S_gives : CalK k_S_gives 2 := ⟨TG_at 1 (by decide +kernel) (by decide +kernel), TG_at 320 (by decide +kernel) (by decide +kernel), by decide +kernel, ⟨by decide +kernel, by decide +kernel⟩, by decide +kernel, by decide⟩
theorem ik_S_gives : InsK k_S_gives 2 := ⟨ck_S_gives, TG_at 318 (by decide +kernel) (by decide +kernel), by decide⟩
theorem vk_S_gives : VirK k_S_gives 2 := ⟨ik_S_gives, TG_at 319 (by decide +kernel) (by decide +kernel)⟩
theorem ck_L_become : CalK k_L_become 1 := ⟨TG_at 3 (by decide +kernel) (by decide +kernel), TG_at 324 (by decide +kernel) (by decide +kernel), by decide +kernel, ⟨by decide +kernel, by decide +kernel⟩, by decide +kernel, by decide⟩
theorem ik_L_become : InsK k_L_become 1 := ⟨ck_L_become, TG_at 322 (by decide +kernel) (by decide +kernel), by decide⟩
theorem vk_L_become : VirK k_L_become 1 := ⟨ik_L_become, TG_at 323 (by decide +kernel) (by decide +kernel)⟩
theorem ck_L_since : CalK k_L_since 2 := ⟨TG_at 3 (by decide +kernel) (by decide +kernel), TG_at 331 (by decide +kernel) (by decide +kernel), by decide +kernel, ⟨by decide +kernel, by decide +kernel⟩, by decide +kernel, by decide⟩
theorem ik_L_since : InsK k_L_since 2 := ⟨ck_L_since, TG_at 329 (by decide +kernel) (by decide +kernel), by decide⟩
theorem vk_L_since : VirK k_L_since 2 := ⟨ik_L_since, TG_at 330 (by decide +kernel) (by decide +kernel)⟩
theorem ck_S_lasts : CalK k_S_lasts 1 := ⟨TG_at 1 (by decide +kernel) (by decide +kernel), TG_at 335 (by decide +kernel) (by decide +kernel), by decide +kernel, ⟨by decide +kernel, by decide +kernel⟩, by decide +kernel, by decide⟩
theorem ik_S_lasts : InsK k_S_lasts 1 := ⟨ck_S_lasts, TG_at 333 (by decide +kernel) (by decide +kernel), by decide⟩
theorem vk_S_lasts : VirK k_S_lasts 1 := ⟨ik_S_lasts, TG_at 334 (by decide +kernel) (by decide +kernel)⟩
theorem ck_S_out : CalK k_S_out 1 := ⟨TG_at 1 (by decide +kernel) (by decide +kernel), TG_at 339 (by decide +kernel) (by decide +kernel), by decide +kernel, ⟨by decide +kernel, by decide +kernel⟩, by decide +kernel, by decide⟩
theorem ik_S_out : InsK k_S_out 1 := ⟨ck_S_out, TG_at 337 (by decide +kernel) (by decide +kernel), by decide⟩
theorem vk_S_out : VirK k_S_out 1 := ⟨ik_S_out, TG_at 338 (by decide +kernel) (by decide +kernel)⟩
theorem ck_S_timesTillOut : CalK k_S_timesTillOut 2 := ⟨TG_at 1 (by decide +kernel) (by decide +kernel), TG_at 343 (by decide +kernel) (by decide +kernel), by decide +kernel, ⟨by decide +kernel, by decide +kernel⟩, by decide +kernel, by decide⟩
theorem ik_S_timesTillOut : InsK k_S_timesTillOut 2 := ⟨ck_S_timesTillOut, TG_at 342 (by decide +kernel) (by decide +kernel), by decide⟩
theorem vk_S_timesTillOut : VirK k_S_timesTillOut 2 := ⟨ik_S_timesTillOut, TG_sel 3 (by decide +kernel) (by decide +kernel)⟩
theorem ck_S_when : CalK k_S_when 1 := ⟨TG_at 1 (by decide +kernel) (by decide +kernel), TG_at 347 (by decide +kernel) (by decide +kernel), by decide +kernel, ⟨by decide +kernel, by decide +kernel⟩, by decide +kernel, by decide⟩
theorem ik_S_when : InsK k_S_when 1 := ⟨ck_S_when, TG_at 345 (by decide +kernel) (by decide +kernel), by decide⟩
theorem vk_S_when : VirK k_S_when 1 := ⟨ik_S_when, TG_at 346 (by decide +kernel) (by decide +kernel)⟩
theorem ck_L_passHours : CalK k_L_passHours 1 := ⟨TG_at 3 (by decide +kernel) (by decide +kernel), TG_at 351 (by decide +kernel) (by decide +kernel), by decide +kernel, ⟨by decide +kernel, by decide +kernel⟩, by decide +kernel, by decide⟩
theorem ik_L_passHours : InsK k_L_passHours 1 := ⟨ck_L_passHours, TG_at 349 (by decide +kernel) (by decide +kernel), by decide⟩
theorem vk_L_passHours : VirK k_L_passHours 1 := ⟨ik_L_passHours, TG_at 350 (by decide +kernel) (by decide +kernel)⟩
theorem ck_S_feed : CalK k_S_feed 2 := ⟨TG_at 1 (by decide +kernel) (by decide +kernel), TG_at 355 (by decide +kernel) (by decide +kernel), by decide +kernel, ⟨by decide +kernel, by decide +kernel⟩, by decide +kernel, by decide⟩
theorem ik_S_feed : InsK k_S_feed 2 := ⟨ck_S_feed, TG_at 353 (by decide +kernel) (by decide +kernel), by decide⟩
theorem vk_S_feed : VirK k_S_feed 2 := ⟨ik_S_feed, TG_at 354 (by decide +kernel) (by decide +kernel)⟩
theorem ck_P_append : CalK k_P_append 1 := ⟨TG_at 6 (by decide +kernel) (by decide +kernel), TG_at 359 (by decide +kernel) (by decide +kernel), by decide +kernel, ⟨by decide +kernel, by decide +kernel⟩, by decide +kernel, by decide⟩
theorem ik_P_append : InsK k_P_append 1 := ⟨ck_P_append, TG_at 357 (by decide +kernel) (by decide +kernel), by decide⟩
theorem vk_P_append : VirK k_P_append 1 := ⟨ik_P_append, TG_at 358 (by decide +kernel) (by decide +kernel)⟩
theorem ck_S_wipe : CalK k_S_wipe 0 := ⟨TG_at 1 (by decide +kernel) (by decide +kernel), TG_at 363 (by decide +kernel) (by decide +kernel), by decide +kernel, ⟨by decide +kernel, by decide +kernel⟩, by decide +kernel, by decide⟩
theorem ik_S_wipe : InsK k_S_wipe 0 := ⟨ck_S_wipe, TG_at 361 (by decide +kernel) (by decide +kernel), by decide⟩
theorem vk_S_wipe : VirK k_S_wipe 0 := ⟨ik_S_wipe, TG_at 362 (by decide +kernel) (by decide +kernel)⟩
theorem ck_S_text : CalK k_S_text 0 := ⟨TG_at 1 (by decide +kernel) (by decide +kernel), TG_at 367 (by decide +kernel) (by decide +kernel), by decide +kernel, ⟨by decide +kernel, by decide +kernel⟩, by decide +kernel, by decide⟩
theorem ik_S_text : InsK k_S_text 0 := ⟨ck_S_text, TG_at 365 (by decide +kernel) (by decide +kernel), by decide⟩
theorem vk_S_text : VirK k_S_text 0 := ⟨ik_S_text, TG_at 366 (by decide +kernel) (by decide +kernel)⟩
theorem ck_C_become : CalK k_C_become 1 := ⟨TG_at 2 (by decide +kernel) (by decide +kernel), TG_at 371 (by decide +kernel) (by decide +kernel), by decide +kernel, ⟨by decide +kernel, by decide +kernel⟩, by decide +kernel, by decide⟩
theorem ik_C_become : InsK k_C_become 1 := ⟨ck_C_become, TG_at 369 (by decide +kernel) (by decide +kernel), by decide⟩
theorem vk_C_become : VirK k_C_become 1 := ⟨ik_C_become, TG_at 370 (by decide +kernel) (by decide +kernel)⟩
theorem ck_P_readInto : CalK k_P_readInto 1 := ⟨TG_at 6 (by decide +kernel) (by decide +kernel), TG_at 377 (by decide +kernel) (by decide +kernel), by decide +kernel, ⟨by decide +kernel, by decide +kernel⟩, by decide +kernel, by decide⟩
theorem ik_P_readInto : InsK k_P_readInto 1 := ⟨ck_P_readInto, TG_at 375 (by decide +kernel) (by decide +kernel), by decide⟩
theorem vk_P_readInto : VirK k_P_readInto 1 := ⟨ik_P_readInto, TG_at 376 (by decide +kernel) (by decide +kernel)⟩
theorem ck_P_step : CalK k_P_step 0 := ⟨TG_at 6 (by decide +kernel) (by decide +kernel), TG_at 381 (by decide +kernel) (by decide +kernel), by decide +kernel, ⟨by decide +kernel, by decide +kernel⟩, by decide +kernel, by decide⟩
theorem ik_P_step : InsK k_P_step 0 := ⟨ck_P_step, TG_at 380 (by decide +kernel) (by decide +kernel), by decide⟩
theorem vk_P_step : VirK k_P_step 0 := ⟨ik_P_step, TG_sel 4 (by decide +kernel) (by decide +kernel)⟩
theorem ck_P_endOfRun : CalK k_P_endOfRun 3 := ⟨TG_at 6 (by decide +kernel) (by decide +kernel), TG_at 385 (by decide +kernel) (by decide +kernel), by decide +kernel, ⟨by decide +kernel, by decide +kernel⟩, by decide +kernel, by decide⟩
theorem ik_P_endOfRun : InsK k_P_endOfRun 3 := ⟨ck_P_endOfRun, TG_at 384 (by decide +kernel) (by decide +kernel), by decide⟩
theorem vk_P_endOfRun : VirK k_P_endOfRun 3 := ⟨ik_P_endOfRun, TG_sel 5 (by decide +kernel) (by decide +kernel)⟩
theorem ck_P_numberRead : CalK k_P_numberRead 0 := ⟨TG_at 6 (by decide +kernel) (by decide +kernel), TG_at 390 (by decide +kernel) (by decide +kernel), by decide +kernel, ⟨by decide +kernel, by decide +kernel⟩, by decide +kernel, by decide⟩
theorem ik_P_numberRead : InsK k_P_numberRead 0 := ⟨ck_P_numberRead, TG_at 389 (by decide +kernel) (by decide +kernel), by decide⟩
theorem vk_P_numberRead : VirK k_P_numberRead 0 := ⟨ik_P_numberRead, TG_sel 6 (by decide +kernel) (by decide +kernel)⟩
theorem ck_P_readItem : CalK k_P_readItem 1 := ⟨TG_at 6 (by decide +kernel) (by decide +kernel), TG_at 395 (by decide +kernel) (by decide +kernel), by decide +kernel, ⟨by decide +kernel, by decide +kernel⟩, by decide +kernel, by decide⟩
theorem ik_P_readItem : InsK k_P_readItem 1 := ⟨ck_P_readItem, TG_at 394 (by decide +kernel) (by decide +kernel), by decide⟩
theorem vk_P_readItem : VirK k_P_readItem 1 := ⟨ik_P_readItem, TG_sel 7 (by decide +kernel) (by decide +kernel)⟩
theorem ck_P_wordRead : CalK k_P_wordRead 0 := ⟨TG_at 6 (by decide +kernel) (by decide +kernel), TG_at 399 (by decide +kernel) (by decide +kernel), by decide +kernel, ⟨by decide +kernel, by decide +kernel⟩, by decide +kernel, by decide⟩
theorem ik_P_wordRead : InsK k_P_wordRead 0 := ⟨ck_P_wordRead, TG_at 398 (by decide +kernel) (by decide +kernel), by decide⟩
theorem vk_P_wordRead : VirK k_P_wordRead 0 := ⟨ik_P_wordRead, TG_sel 8 (by decide +kernel) (by decide +kernel)⟩
theorem ck_P_wordOf : CalK k_P_wordOf 1 := ⟨TG_at 6 (by decide +kernel) (by decide +kernel), TG_at 402 (by decide +kernel) (by decide +kernel), by decide +kernel, ⟨by decide +kernel, by decide +kernel⟩, by decide +kernel, by decide⟩
theorem sk_P_wordOf : StaK k_P_wordOf 1 := ⟨ck_P_wordOf, TG_at 401 (by decide +kernel) (by decide +kernel), by decide⟩
theorem ck_P_spells : CalK k_P_spells 1 := ⟨TG_at 6 (by decide +kernel) (by decide +kernel), TG_at 420 (by decide +kernel) (by decide +kernel), by decide +kernel, ⟨by decide +kernel, by decide +kernel⟩, by decide +kernel, by decide⟩
theorem ik_P_spells : InsK k_P_spells 1 := ⟨ck_P_spells, TG_at 419 (by decide +kernel) (by decide +kernel), by decide⟩
theorem vk_P_spells : VirK k_P_spells 1 := ⟨ik_P_spells, TG_sel 9 (by decide +kernel) (by decide +kernel)⟩
theorem ck_JS_length : CalK k_JS_length 0 := ⟨TG_at 11 (by decide +kernel) (by decide +kernel), TG_at 424 (by decide +kernel) (by decide +kernel), by decide +kernel, ⟨by decide +kernel, by decide +kernel⟩, by decide +kernel, by decide⟩
theorem ik_JS_length : InsK k_JS_length 0 := ⟨ck_JS_length, TG_at 422 (by decide +kernel) (by decide +kernel), by decide⟩
theorem vk_JS_length : VirK k_JS_length 0 := ⟨ik_JS_length, TG_at 423 (by decide +kernel) (by decide +kernel)⟩
theorem ck_JS_coder : CalK k_JS_coder 0 := ⟨TG_at 11 (by decide +kernel) (by decide +kernel), TG_at 428 (by decide +kernel) (by decide +kernel), by decide +kernel, ⟨by decide +kernel, by decide +kernel⟩, by decide +kernel, by decide⟩
theorem ik_JS_coder : InsK k_JS_coder 0 := ⟨ck_JS_coder, TG_at 426 (by decide +kernel) (by decide +kernel), by decide⟩
theorem vk_JS_coder : VirK k_JS_coder 0 := ⟨ik_JS_coder, TG_at 427 (by decide +kernel) (by decide +kernel)⟩
theorem ck_JS_charAt : CalK k_JS_charAt 1 := ⟨TG_at 11 (by decide +kernel) (by decide +kernel), TG_at 434 (by decide +kernel) (by decide +kernel), by decide +kernel, ⟨by decide +kernel, by decide +kernel⟩, by decide +kernel, by decide⟩
theorem ik_JS_charAt : InsK k_JS_charAt 1 := ⟨ck_JS_charAt, TG_at 432 (by decide +kernel) (by decide +kernel), by decide⟩
theorem vk_JS_charAt : VirK k_JS_charAt 1 := ⟨ik_JS_charAt, TG_at 433 (by decide +kernel) (by decide +kernel)⟩
theorem ck_JS_isLatin1 : CalK k_JS_isLatin1 0 := ⟨TG_at 11 (by decide +kernel) (by decide +kernel), TG_at 438 (by decide +kernel) (by decide +kernel), by decide +kernel, ⟨by decide +kernel, by decide +kernel⟩, by decide +kernel, by decide⟩
theorem ik_JS_isLatin1 : InsK k_JS_isLatin1 0 := ⟨ck_JS_isLatin1, TG_at 436 (by decide +kernel) (by decide +kernel), by decide⟩
theorem vk_JS_isLatin1 : VirK k_JS_isLatin1 0 := ⟨ik_JS_isLatin1, TG_at 437 (by decide +kernel) (by decide +kernel)⟩
theorem ck_JL_charAt : CalK k_JL_charAt 2 := ⟨TG_at 12 (by decide +kernel) (by decide +kernel), TG_at 441 (by decide +kernel) (by decide +kernel), by decide +kernel, ⟨by decide +kernel, by decide +kernel⟩, by decide +kernel, by decide⟩
theorem sk_JL_charAt : StaK k_JL_charAt 2 := ⟨ck_JL_charAt, TG_at 440 (by decide +kernel) (by decide +kernel), by decide⟩
theorem ck_JS_checkIndex : CalK k_JS_checkIndex 2 := ⟨TG_at 11 (by decide +kernel) (by decide +kernel), TG_at 444 (by decide +kernel) (by decide +kernel), by decide +kernel, ⟨by decide +kernel, by decide +kernel⟩, by decide +kernel, by decide⟩
theorem sk_JS_checkIndex : StaK k_JS_checkIndex 2 := ⟨ck_JS_checkIndex, TG_at 443 (by decide +kernel) (by decide +kernel), by decide⟩
theorem ck_JP_checkIndex : CalK k_JP_checkIndex 3 := ⟨TG_at 13 (by decide +kernel) (by decide +kernel), TG_at 449 (by decide +kernel) (by decide +kernel), by decide +kernel, ⟨by decide +kernel, by decide +kernel⟩, by decide +kernel, by decide⟩
theorem sk_JP_checkIndex : StaK k_JP_checkIndex 3 := ⟨ck_JP_checkIndex, TG_at 448 (by decide +kernel) (by decide +kernel), by decide⟩
theorem ck_JU_charAt : CalK k_JU_charAt 2 := ⟨TG_at 14 (by decide +kernel) (by decide +kernel), TG_at 452 (by decide +kernel) (by decide +kernel), by decide +kernel, ⟨by decide +kernel, by decide +kernel⟩, by decide +kernel, by decide⟩
theorem sk_JU_charAt : StaK k_JU_charAt 2 := ⟨ck_JU_charAt, TG_at 451 (by decide +kernel) (by decide +kernel), by decide⟩
theorem ck_JU_checkIndex : CalK k_JU_checkIndex 2 := ⟨TG_at 14 (by decide +kernel) (by decide +kernel), TG_at 455 (by decide +kernel) (by decide +kernel), by decide +kernel, ⟨by decide +kernel, by decide +kernel⟩, by decide +kernel, by decide⟩
theorem sk_JU_checkIndex : StaK k_JU_checkIndex 2 := ⟨ck_JU_checkIndex, TG_at 454 (by decide +kernel) (by decide +kernel), by decide⟩
theorem ck_JU_length : CalK k_JU_length 1 := ⟨TG_at 14 (by decide +kernel) (by decide +kernel), TG_at 458 (by decide +kernel) (by decide +kernel), by decide +kernel, ⟨by decide +kernel, by decide +kernel⟩, by decide +kernel, by decide⟩
theorem sk_JU_length : StaK k_JU_length 1 := ⟨ck_JU_length, TG_at 457 (by decide +kernel) (by decide +kernel), by decide⟩
theorem ck_JU_getChar : CalK k_JU_getChar 2 := ⟨TG_at 14 (by decide +kernel) (by decide +kernel), TG_at 462 (by decide +kernel) (by decide +kernel), by decide +kernel, ⟨by decide +kernel, by decide +kernel⟩, by decide +kernel, by decide⟩
theorem sk_JU_getChar : StaK k_JU_getChar 2 := ⟨ck_JU_getChar, TG_at 461 (by decide +kernel) (by decide +kernel), by decide⟩
theorem ck_P_readEfforts : CalK k_P_readEfforts 2 := ⟨TG_at 6 (by decide +kernel) (by decide +kernel), TG_at 472 (by decide +kernel) (by decide +kernel), by decide +kernel, ⟨by decide +kernel, by decide +kernel⟩, by decide +kernel, by decide⟩
theorem ik_P_readEfforts : InsK k_P_readEfforts 2 := ⟨ck_P_readEfforts, TG_at 471 (by decide +kernel) (by decide +kernel), by decide⟩
theorem vk_P_readEfforts : VirK k_P_readEfforts 2 := ⟨ik_P_readEfforts, TG_sel 10 (by decide +kernel) (by decide +kernel)⟩
theorem ck_C_hasRoomFor : CalK k_C_hasRoomFor 1 := ⟨TG_at 2 (by decide +kernel) (by decide +kernel), TG_at 476 (by decide +kernel) (by decide +kernel), by decide +kernel, ⟨by decide +kernel, by decide +kernel⟩, by decide +kernel, by decide⟩
theorem ik_C_hasRoomFor : InsK k_C_hasRoomFor 1 := ⟨ck_C_hasRoomFor, TG_at 474 (by decide +kernel) (by decide +kernel), by decide⟩
theorem vk_C_hasRoomFor : VirK k_C_hasRoomFor 1 := ⟨ik_C_hasRoomFor, TG_at 475 (by decide +kernel) (by decide +kernel)⟩
theorem ck_C_addToPlan : CalK k_C_addToPlan 2 := ⟨TG_at 2 (by decide +kernel) (by decide +kernel), TG_at 480 (by decide +kernel) (by decide +kernel), by decide +kernel, ⟨by decide +kernel, by decide +kernel⟩, by decide +kernel, by decide⟩
theorem ik_C_addToPlan : InsK k_C_addToPlan 2 := ⟨ck_C_addToPlan, TG_at 478 (by decide +kernel) (by decide +kernel), by decide⟩
theorem vk_C_addToPlan : VirK k_C_addToPlan 2 := ⟨ik_C_addToPlan, TG_at 479 (by decide +kernel) (by decide +kernel)⟩
theorem ck_P_readSand : CalK k_P_readSand 1 := ⟨TG_at 6 (by decide +kernel) (by decide +kernel), TG_at 484 (by decide +kernel) (by decide +kernel), by decide +kernel, ⟨by decide +kernel, by decide +kernel⟩, by decide +kernel, by decide⟩
theorem ik_P_readSand : InsK k_P_readSand 1 := ⟨ck_P_readSand, TG_at 483 (by decide +kernel) (by decide +kernel), by decide⟩
theorem vk_P_readSand : VirK k_P_readSand 1 := ⟨ik_P_readSand, TG_sel 11 (by decide +kernel) (by decide +kernel)⟩
theorem ck_P_readNumber : CalK k_P_readNumber 2 := ⟨TG_at 6 (by decide +kernel) (by decide +kernel), TG_at 489 (by decide +kernel) (by decide +kernel), by decide +kernel, ⟨by decide +kernel, by decide +kernel⟩, by decide +kernel, by decide⟩
theorem ik_P_readNumber : InsK k_P_readNumber 2 := ⟨ck_P_readNumber, TG_at 488 (by decide +kernel) (by decide +kernel), by decide⟩
theorem vk_P_readNumber : VirK k_P_readNumber 2 := ⟨ik_P_readNumber, TG_sel 12 (by decide +kernel) (by decide +kernel)⟩
theorem ck_S_planOf : CalK k_S_planOf 1 := ⟨TG_at 1 (by decide +kernel) (by decide +kernel), TG_at 496 (by decide +kernel) (by decide +kernel), by decide +kernel, ⟨by decide +kernel, by decide +kernel⟩, by decide +kernel, by decide⟩
theorem ik_S_planOf : InsK k_S_planOf 1 := ⟨ck_S_planOf, TG_at 494 (by decide +kernel) (by decide +kernel), by decide⟩
theorem vk_S_planOf : VirK k_S_planOf 1 := ⟨ik_S_planOf, TG_at 495 (by decide +kernel) (by decide +kernel)⟩
theorem ck_S_clear : CalK k_S_clear 0 := ⟨TG_at 1 (by decide +kernel) (by decide +kernel), TG_at 500 (by decide +kernel) (by decide +kernel), by decide +kernel, ⟨by decide +kernel, by decide +kernel⟩, by decide +kernel, by decide⟩
theorem ik_S_clear : InsK k_S_clear 0 := ⟨ck_S_clear, TG_at 498 (by decide +kernel) (by decide +kernel), by decide⟩
theorem vk_S_clear : VirK k_S_clear 0 := ⟨ik_S_clear, TG_at 499 (by decide +kernel) (by decide +kernel)⟩
theorem ck_S_follow : CalK k_S_follow 0 := ⟨TG_at 1 (by decide +kernel) (by decide +kernel), TG_at 504 (by decide +kernel) (by decide +kernel), by decide +kernel, ⟨by decide +kernel, by decide +kernel⟩, by decide +kernel, by decide⟩
theorem ik_S_follow : InsK k_S_follow 0 := ⟨ck_S_follow, TG_at 502 (by decide +kernel) (by decide +kernel), by decide⟩
theorem vk_S_follow : VirK k_S_follow 0 := ⟨ik_S_follow, TG_at 503 (by decide +kernel) (by decide +kernel)⟩
theorem ck_C_planDoneBy : CalK k_C_planDoneBy 1 := ⟨TG_at 2 (by decide +kernel) (by decide +kernel), TG_at 508 (by decide +kernel) (by decide +kernel), by decide +kernel, ⟨by decide +kernel, by decide +kernel⟩, by decide +kernel, by decide⟩
theorem ik_C_planDoneBy : InsK k_C_planDoneBy 1 := ⟨ck_C_planDoneBy, TG_at 506 (by decide +kernel) (by decide +kernel), by decide⟩
theorem vk_C_planDoneBy : VirK k_C_planDoneBy 1 := ⟨ik_C_planDoneBy, TG_at 507 (by decide +kernel) (by decide +kernel)⟩
theorem ck_C_isStepDoneBy : CalK k_C_isStepDoneBy 2 := ⟨TG_at 2 (by decide +kernel) (by decide +kernel), TG_at 512 (by decide +kernel) (by decide +kernel), by decide +kernel, ⟨by decide +kernel, by decide +kernel⟩, by decide +kernel, by decide⟩
theorem ik_C_isStepDoneBy : InsK k_C_isStepDoneBy 2 := ⟨ck_C_isStepDoneBy, TG_at 510 (by decide +kernel) (by decide +kernel), by decide⟩
theorem vk_C_isStepDoneBy : VirK k_C_isStepDoneBy 2 := ⟨ik_C_isStepDoneBy, TG_at 511 (by decide +kernel) (by decide +kernel)⟩
theorem ck_S_plans : CalK k_S_plans 1 := ⟨TG_at 1 (by decide +kernel) (by decide +kernel), TG_at 517 (by decide +kernel) (by decide +kernel), by decide +kernel, ⟨by decide +kernel, by decide +kernel⟩, by decide +kernel, by decide⟩
theorem ik_S_plans : InsK k_S_plans 1 := ⟨ck_S_plans, TG_at 515 (by decide +kernel) (by decide +kernel), by decide⟩
theorem vk_S_plans : VirK k_S_plans 1 := ⟨ik_S_plans, TG_at 516 (by decide +kernel) (by decide +kernel)⟩
theorem ck_S_best : CalK k_S_best 2 := ⟨TG_at 1 (by decide +kernel) (by decide +kernel), TG_at 521 (by decide +kernel) (by decide +kernel), by decide +kernel, ⟨by decide +kernel, by decide +kernel⟩, by decide +kernel, by decide⟩
theorem ik_S_best : InsK k_S_best 2 := ⟨ck_S_best, TG_at 519 (by decide +kernel) (by decide +kernel), by decide⟩
theorem vk_S_best : VirK k_S_best 2 := ⟨ik_S_best, TG_at 520 (by decide +kernel) (by decide +kernel)⟩
theorem ck_H_begin : CalK k_H_begin 1 := ⟨TG_at 5 (by decide +kernel) (by decide +kernel), TG_at 525 (by decide +kernel) (by decide +kernel), by decide +kernel, ⟨by decide +kernel, by decide +kernel⟩, by decide +kernel, by decide⟩
theorem ik_H_begin : InsK k_H_begin 1 := ⟨ck_H_begin, TG_at 523 (by decide +kernel) (by decide +kernel), by decide⟩
theorem vk_H_begin : VirK k_H_begin 1 := ⟨ik_H_begin, TG_at 524 (by decide +kernel) (by decide +kernel)⟩
theorem ck_H_tryRows : CalK k_H_tryRows 4 := ⟨TG_at 5 (by decide +kernel) (by decide +kernel), TG_at 529 (by decide +kernel) (by decide +kernel), by decide +kernel, ⟨by decide +kernel, by decide +kernel⟩, by decide +kernel, by decide⟩
theorem sk_H_tryRows : StaK k_H_tryRows 4 := ⟨ck_H_tryRows, TG_at 528 (by decide +kernel) (by decide +kernel), by decide⟩
theorem ck_H_weigh : CalK k_H_weigh 2 := ⟨TG_at 5 (by decide +kernel) (by decide +kernel), TG_at 533 (by decide +kernel) (by decide +kernel), by decide +kernel, ⟨by decide +kernel, by decide +kernel⟩, by decide +kernel, by decide⟩
theorem ik_H_weigh : InsK k_H_weigh 2 := ⟨ck_H_weigh, TG_at 532 (by decide +kernel) (by decide +kernel), by decide⟩
theorem vk_H_weigh : VirK k_H_weigh 2 := ⟨ik_H_weigh, TG_sel 13 (by decide +kernel) (by decide +kernel)⟩
theorem ck_S_airFor : CalK k_S_airFor 1 := ⟨TG_at 1 (by decide +kernel) (by decide +kernel), TG_at 540 (by decide +kernel) (by decide +kernel), by decide +kernel, ⟨by decide +kernel, by decide +kernel⟩, by decide +kernel, by decide⟩
theorem ik_S_airFor : InsK k_S_airFor 1 := ⟨ck_S_airFor, TG_at 538 (by decide +kernel) (by decide +kernel), by decide⟩
theorem vk_S_airFor : VirK k_S_airFor 1 := ⟨ik_S_airFor, TG_at 539 (by decide +kernel) (by decide +kernel)⟩
theorem ck_S_sacksFor : CalK k_S_sacksFor 1 := ⟨TG_at 1 (by decide +kernel) (by decide +kernel), TG_at 544 (by decide +kernel) (by decide +kernel), by decide +kernel, ⟨by decide +kernel, by decide +kernel⟩, by decide +kernel, by decide⟩
theorem ik_S_sacksFor : InsK k_S_sacksFor 1 := ⟨ck_S_sacksFor, TG_at 542 (by decide +kernel) (by decide +kernel), by decide⟩
theorem vk_S_sacksFor : VirK k_S_sacksFor 1 := ⟨ik_S_sacksFor, TG_at 543 (by decide +kernel) (by decide +kernel)⟩
theorem ck_S_waterFor : CalK k_S_waterFor 0 := ⟨TG_at 1 (by decide +kernel) (by decide +kernel), TG_at 549 (by decide +kernel) (by decide +kernel), by decide +kernel, ⟨by decide +kernel, by decide +kernel⟩, by decide +kernel, by decide⟩
theorem ik_S_waterFor : InsK k_S_waterFor 0 := ⟨ck_S_waterFor, TG_at 547 (by decide +kernel) (by decide +kernel), by decide⟩
theorem vk_S_waterFor : VirK k_S_waterFor 0 := ⟨ik_S_waterFor, TG_at 548 (by decide +kernel) (by decide +kernel)⟩
theorem ck_S_boardsFor : CalK k_S_boardsFor 1 := ⟨TG_at 1 (by decide +kernel) (by decide +kernel), TG_at 553 (by decide +kernel) (by decide +kernel), by decide +kernel, ⟨by decide +kernel, by decide +kernel⟩, by decide +kernel, by decide⟩
theorem ik_S_boardsFor : InsK k_S_boardsFor 1 := ⟨ck_S_boardsFor, TG_at 551 (by decide +kernel) (by decide +kernel), by decide⟩
theorem vk_S_boardsFor : VirK k_S_boardsFor 1 := ⟨ik_S_boardsFor, TG_at 552 (by decide +kernel) (by decide +kernel)⟩
theorem ck_S_way : CalK k_S_way 0 := ⟨TG_at 1 (by decide +kernel) (by decide +kernel), TG_at 557 (by decide +kernel) (by decide +kernel), by decide +kernel, ⟨by decide +kernel, by decide +kernel⟩, by decide +kernel, by decide⟩
theorem ik_S_way : InsK k_S_way 0 := ⟨ck_S_way, TG_at 555 (by decide +kernel) (by decide +kernel), by decide⟩
theorem vk_S_way : VirK k_S_way 0 := ⟨ik_S_way, TG_at 556 (by decide +kernel) (by decide +kernel)⟩
theorem ck_S_odds : CalK k_S_odds 1 := ⟨TG_at 1 (by decide +kernel) (by decide +kernel), TG_at 561 (by decide +kernel) (by decide +kernel), by decide +kernel, ⟨by decide +kernel, by decide +kernel⟩, by decide +kernel, by decide⟩
theorem ik_S_odds : InsK k_S_odds 1 := ⟨ck_S_odds, TG_at 559 (by decide +kernel) (by decide +kernel), by decide⟩
theorem vk_S_odds : VirK k_S_odds 1 := ⟨ik_S_odds, TG_at 560 (by decide +kernel) (by decide +kernel)⟩
theorem ck_S_seed : CalK k_S_seed 1 := ⟨TG_at 1 (by decide +kernel) (by decide +kernel), TG_at 565 (by decide +kernel) (by decide +kernel), by decide +kernel, ⟨by decide +kernel, by decide +kernel⟩, by decide +kernel, by decide⟩
theorem ik_S_seed : InsK k_S_seed 1 := ⟨ck_S_seed, TG_at 563 (by decide +kernel) (by decide +kernel), by decide⟩
theorem vk_S_seed : VirK k_S_seed 1 := ⟨ik_S_seed, TG_at 564 (by decide +kernel) (by decide +kernel)⟩
theorem ck_S_hold : CalK k_S_hold 2 := ⟨TG_at 1 (by decide +kernel) (by decide +kernel), TG_at 569 (by decide +kernel) (by decide +kernel), by decide +kernel, ⟨by decide +kernel, by decide +kernel⟩, by decide +kernel, by decide⟩
theorem ik_S_hold : InsK k_S_hold 2 := ⟨ck_S_hold, TG_at 567 (by decide +kernel) (by decide +kernel), by decide⟩
theorem vk_S_hold : VirK k_S_hold 2 := ⟨ik_S_hold, TG_at 568 (by decide +kernel) (by decide +kernel)⟩
theorem ck_S_isSpot : CalK k_S_isSpot 1 := ⟨TG_at 1 (by decide +kernel) (by decide +kernel), TG_at 572 (by decide +kernel) (by decide +kernel), by decide +kernel, ⟨by decide +kernel, by decide +kernel⟩, by decide +kernel, by decide⟩
theorem sk_S_isSpot : StaK k_S_isSpot 1 := ⟨ck_S_isSpot, TG_at 571 (by decide +kernel) (by decide +kernel), by decide⟩
theorem ck_S_as : CalK k_S_as 2 := ⟨TG_at 1 (by decide +kernel) (by decide +kernel), TG_at 576 (by decide +kernel) (by decide +kernel), by decide +kernel, ⟨by decide +kernel, by decide +kernel⟩, by decide +kernel, by decide⟩
theorem ik_S_as : InsK k_S_as 2 := ⟨ck_S_as, TG_at 574 (by decide +kernel) (by decide +kernel), by decide⟩
theorem vk_S_as : VirK k_S_as 2 := ⟨ik_S_as, TG_at 575 (by decide +kernel) (by decide +kernel)⟩
theorem ck_S_sheet : CalK k_S_sheet 3 := ⟨TG_at 1 (by decide +kernel) (by decide +kernel), TG_at 581 (by decide +kernel) (by decide +kernel), by decide +kernel, ⟨by decide +kernel, by decide +kernel⟩, by decide +kernel, by decide⟩
theorem ik_S_sheet : InsK k_S_sheet 3 := ⟨ck_S_sheet, TG_at 579 (by decide +kernel) (by decide +kernel), by decide⟩
theorem vk_S_sheet : VirK k_S_sheet 3 := ⟨ik_S_sheet, TG_at 580 (by decide +kernel) (by decide +kernel)⟩
theorem ck_S_isSheet : CalK k_S_isSheet 1 := ⟨TG_at 1 (by decide +kernel) (by decide +kernel), TG_at 584 (by decide +kernel) (by decide +kernel), by decide +kernel, ⟨by decide +kernel, by decide +kernel⟩, by decide +kernel, by decide⟩
theorem sk_S_isSheet : StaK k_S_isSheet 1 := ⟨ck_S_isSheet, TG_at 583 (by decide +kernel) (by decide +kernel), by decide⟩
theorem ck_T_renew : CalK k_T_renew 2 := ⟨TG_at 7 (by decide +kernel) (by decide +kernel), TG_at 588 (by decide +kernel) (by decide +kernel), by decide +kernel, ⟨by decide +kernel, by decide +kernel⟩, by decide +kernel, by decide⟩
theorem ik_T_renew : InsK k_T_renew 2 := ⟨ck_T_renew, TG_at 586 (by decide +kernel) (by decide +kernel), by decide⟩
theorem vk_T_renew : VirK k_T_renew 2 := ⟨ik_T_renew, TG_at 587 (by decide +kernel) (by decide +kernel)⟩
theorem ck_T_isMissing : CalK k_T_isMissing 0 := ⟨TG_at 7 (by decide +kernel) (by decide +kernel), TG_at 593 (by decide +kernel) (by decide +kernel), by decide +kernel, ⟨by decide +kernel, by decide +kernel⟩, by decide +kernel, by decide⟩
theorem ik_T_isMissing : InsK k_T_isMissing 0 := ⟨ck_T_isMissing, TG_at 591 (by decide +kernel) (by decide +kernel), by decide⟩
theorem vk_T_isMissing : VirK k_T_isMissing 0 := ⟨ik_T_isMissing, TG_at 592 (by decide +kernel) (by decide +kernel)⟩
theorem ck_S_write : CalK k_S_write 3 := ⟨TG_at 1 (by decide +kernel) (by decide +kernel), TG_at 597 (by decide +kernel) (by decide +kernel), by decide +kernel, ⟨by decide +kernel, by decide +kernel⟩, by decide +kernel, by decide⟩
theorem ik_S_write : InsK k_S_write 3 := ⟨ck_S_write, TG_at 595 (by decide +kernel) (by decide +kernel), by decide⟩
theorem vk_S_write : VirK k_S_write 3 := ⟨ik_S_write, TG_at 596 (by decide +kernel) (by decide +kernel)⟩
theorem ck_T_hasAll : CalK k_T_hasAll 2 := ⟨TG_at 7 (by decide +kernel) (by decide +kernel), TG_at 602 (by decide +kernel) (by decide +kernel), by decide +kernel, ⟨by decide +kernel, by decide +kernel⟩, by decide +kernel, by decide⟩
theorem ik_T_hasAll : InsK k_T_hasAll 2 := ⟨ck_T_hasAll, TG_at 600 (by decide +kernel) (by decide +kernel), by decide⟩
theorem vk_T_hasAll : VirK k_T_hasAll 2 := ⟨ik_T_hasAll, TG_at 601 (by decide +kernel) (by decide +kernel)⟩
theorem ck_T_fitted : CalK k_T_fitted 1 := ⟨TG_at 7 (by decide +kernel) (by decide +kernel), TG_at 606 (by decide +kernel) (by decide +kernel), by decide +kernel, ⟨by decide +kernel, by decide +kernel⟩, by decide +kernel, by decide⟩
theorem ik_T_fitted : InsK k_T_fitted 1 := ⟨ck_T_fitted, TG_at 604 (by decide +kernel) (by decide +kernel), by decide⟩
theorem vk_T_fitted : VirK k_T_fitted 1 := ⟨ik_T_fitted, TG_at 605 (by decide +kernel) (by decide +kernel)⟩
theorem ck_S_copy : CalK k_S_copy 5 := ⟨TG_at 1 (by decide +kernel) (by decide +kernel), TG_at 610 (by decide +kernel) (by decide +kernel), by decide +kernel, ⟨by decide +kernel, by decide +kernel⟩, by decide +kernel, by decide⟩
theorem ik_S_copy : InsK k_S_copy 5 := ⟨ck_S_copy, TG_at 608 (by decide +kernel) (by decide +kernel), by decide⟩
theorem vk_S_copy : VirK k_S_copy 5 := ⟨ik_S_copy, TG_at 609 (by decide +kernel) (by decide +kernel)⟩
theorem ck_S_load : CalK k_S_load 2 := ⟨TG_at 1 (by decide +kernel) (by decide +kernel), TG_at 615 (by decide +kernel) (by decide +kernel), by decide +kernel, ⟨by decide +kernel, by decide +kernel⟩, by decide +kernel, by decide⟩
theorem ik_S_load : InsK k_S_load 2 := ⟨ck_S_load, TG_at 613 (by decide +kernel) (by decide +kernel), by decide⟩
theorem vk_S_load : VirK k_S_load 2 := ⟨ik_S_load, TG_at 614 (by decide +kernel) (by decide +kernel)⟩
theorem ck_S_judge : CalK k_S_judge 1 := ⟨TG_at 1 (by decide +kernel) (by decide +kernel), TG_at 620 (by decide +kernel) (by decide +kernel), by decide +kernel, ⟨by decide +kernel, by decide +kernel⟩, by decide +kernel, by decide⟩
theorem ik_S_judge : InsK k_S_judge 1 := ⟨ck_S_judge, TG_at 618 (by decide +kernel) (by decide +kernel), by decide⟩
theorem vk_S_judge : VirK k_S_judge 1 := ⟨ik_S_judge, TG_at 619 (by decide +kernel) (by decide +kernel)⟩
theorem ck_S_image : CalK k_S_image 0 := ⟨TG_at 1 (by decide +kernel) (by decide +kernel), TG_at 625 (by decide +kernel) (by decide +kernel), by decide +kernel, ⟨by decide +kernel, by decide +kernel⟩, by decide +kernel, by decide⟩
theorem ik_S_image : InsK k_S_image 0 := ⟨ck_S_image, TG_at 623 (by decide +kernel) (by decide +kernel), by decide⟩
theorem vk_S_image : VirK k_S_image 0 := ⟨ik_S_image, TG_at 624 (by decide +kernel) (by decide +kernel)⟩
theorem ck_S_undo : CalK k_S_undo 0 := ⟨TG_at 1 (by decide +kernel) (by decide +kernel), TG_at 629 (by decide +kernel) (by decide +kernel), by decide +kernel, ⟨by decide +kernel, by decide +kernel⟩, by decide +kernel, by decide⟩
theorem ik_S_undo : InsK k_S_undo 0 := ⟨ck_S_undo, TG_at 627 (by decide +kernel) (by decide +kernel), by decide⟩
theorem vk_S_undo : VirK k_S_undo 0 := ⟨ik_S_undo, TG_at 628 (by decide +kernel) (by decide +kernel)⟩
theorem ck_S_tear : CalK k_S_tear 0 := ⟨TG_at 1 (by decide +kernel) (by decide +kernel), TG_at 633 (by decide +kernel) (by decide +kernel), by decide +kernel, ⟨by decide +kernel, by decide +kernel⟩, by decide +kernel, by decide⟩
theorem ik_S_tear : InsK k_S_tear 0 := ⟨ck_S_tear, TG_at 631 (by decide +kernel) (by decide +kernel), by decide⟩
theorem vk_S_tear : VirK k_S_tear 0 := ⟨ik_S_tear, TG_at 632 (by decide +kernel) (by decide +kernel)⟩
theorem ck_S_count : CalK k_S_count 1 := ⟨TG_at 1 (by decide +kernel) (by decide +kernel), TG_at 637 (by decide +kernel) (by decide +kernel), by decide +kernel, ⟨by decide +kernel, by decide +kernel⟩, by decide +kernel, by decide⟩
theorem ik_S_count : InsK k_S_count 1 := ⟨ck_S_count, TG_at 635 (by decide +kernel) (by decide +kernel), by decide⟩
theorem vk_S_count : VirK k_S_count 1 := ⟨ik_S_count, TG_at 636 (by decide +kernel) (by decide +kernel)⟩
theorem ck_S_filledOf : CalK k_S_filledOf 1 := ⟨TG_at 1 (by decide +kernel) (by decide +kernel), TG_at 640 (by decide +kernel) (by decide +kernel), by decide +kernel, ⟨by decide +kernel, by decide +kernel⟩, by decide +kernel, by decide⟩
theorem sk_S_filledOf : StaK k_S_filledOf 1 := ⟨ck_S_filledOf, TG_at 639 (by decide +kernel) (by decide +kernel), by decide⟩
theorem ck_S_status : CalK k_S_status 1 := ⟨TG_at 1 (by decide +kernel) (by decide +kernel), TG_at 644 (by decide +kernel) (by decide +kernel), by decide +kernel, ⟨by decide +kernel, by decide +kernel⟩, by decide +kernel, by decide⟩
theorem ik_S_status : InsK k_S_status 1 := ⟨ck_S_status, TG_at 642 (by decide +kernel) (by decide +kernel), by decide⟩
theorem vk_S_status : VirK k_S_status 1 := ⟨ik_S_status, TG_at 643 (by decide +kernel) (by decide +kernel)⟩
theorem ck_M_init : CalK k_M_init 0 := ⟨TG_at 8 (by decide +kernel) (by decide +kernel), TG_at 649 (by decide +kernel) (by decide +kernel), by decide +kernel, ⟨by decide +kernel, by decide +kernel⟩, by decide +kernel, by decide⟩
theorem ik_M_init : InsK k_M_init 0 := ⟨ck_M_init, TG_at 648 (by decide +kernel) (by decide +kernel), by decide⟩
theorem ck_M_sand : CalK k_M_sand 2 := ⟨TG_at 8 (by decide +kernel) (by decide +kernel), TG_at 703 (by decide +kernel) (by decide +kernel), by decide +kernel, ⟨by decide +kernel, by decide +kernel⟩, by decide +kernel, by decide⟩
theorem ik_M_sand : InsK k_M_sand 2 := ⟨ck_M_sand, TG_at 701 (by decide +kernel) (by decide +kernel), by decide⟩
theorem vk_M_sand : VirK k_M_sand 2 := ⟨ik_M_sand, TG_at 702 (by decide +kernel) (by decide +kernel)⟩
theorem ck_M_isYard : CalK k_M_isYard 1 := ⟨TG_at 8 (by decide +kernel) (by decide +kernel), TG_at 706 (by decide +kernel) (by decide +kernel), by decide +kernel, ⟨by decide +kernel, by decide +kernel⟩, by decide +kernel, by decide⟩
theorem sk_M_isYard : StaK k_M_isYard 1 := ⟨ck_M_isYard, TG_at 705 (by decide +kernel) (by decide +kernel), by decide⟩
theorem ck_M_in : CalK k_M_in 3 := ⟨TG_at 8 (by decide +kernel) (by decide +kernel), TG_at 709 (by decide +kernel) (by decide +kernel), by decide +kernel, ⟨by decide +kernel, by decide +kernel⟩, by decide +kernel, by decide⟩
theorem sk_M_in : StaK k_M_in 3 := ⟨ck_M_in, TG_at 708 (by decide +kernel) (by decide +kernel), by decide⟩
theorem ck_M_finding : CalK k_M_finding 1 := ⟨TG_at 8 (by decide +kernel) (by decide +kernel), TG_at 713 (by decide +kernel) (by decide +kernel), by decide +kernel, ⟨by decide +kernel, by decide +kernel⟩, by decide +kernel, by decide⟩
theorem ik_M_finding : InsK k_M_finding 1 := ⟨ck_M_finding, TG_at 712 (by decide +kernel) (by decide +kernel), by decide⟩
theorem vk_M_finding : VirK k_M_finding 1 := ⟨ik_M_finding, TG_sel 14 (by decide +kernel) (by decide +kernel)⟩
theorem ck_M_yardOf : CalK k_M_yardOf 2 := ⟨TG_at 8 (by decide +kernel) (by decide +kernel), TG_at 718 (by decide +kernel) (by decide +kernel), by decide +kernel, ⟨by decide +kernel, by decide +kernel⟩, by decide +kernel, by decide⟩
theorem ik_M_yardOf : InsK k_M_yardOf 2 := ⟨ck_M_yardOf, TG_at 716 (by decide +kernel) (by decide +kernel), by decide⟩
theorem vk_M_yardOf : VirK k_M_yardOf 2 := ⟨ik_M_yardOf, TG_at 717 (by decide +kernel) (by decide +kernel)⟩
theorem ck_M_grip : CalK k_M_grip 1 := ⟨TG_at 8 (by decide +kernel) (by decide +kernel), TG_at 722 (by decide +kernel) (by decide +kernel), by decide +kernel, ⟨by decide +kernel, by decide +kernel⟩, by decide +kernel, by decide⟩
theorem ik_M_grip : InsK k_M_grip 1 := ⟨ck_M_grip, TG_at 721 (by decide +kernel) (by decide +kernel), by decide⟩
theorem vk_M_grip : VirK k_M_grip 1 := ⟨ik_M_grip, TG_sel 15 (by decide +kernel) (by decide +kernel)⟩
theorem ck_M_gripOf : CalK k_M_gripOf 2 := ⟨TG_at 8 (by decide +kernel) (by decide +kernel), TG_at 726 (by decide +kernel) (by decide +kernel), by decide +kernel, ⟨by decide +kernel, by decide +kernel⟩, by decide +kernel, by decide⟩
theorem ik_M_gripOf : InsK k_M_gripOf 2 := ⟨ck_M_gripOf, TG_at 725 (by decide +kernel) (by decide +kernel), by decide⟩
theorem vk_M_gripOf : VirK k_M_gripOf 2 := ⟨ik_M_gripOf, TG_sel 16 (by decide +kernel) (by decide +kernel)⟩
theorem ck_M_hour : CalK k_M_hour 0 := ⟨TG_at 8 (by decide +kernel) (by decide +kernel), TG_at 730 (by decide +kernel) (by decide +kernel), by decide +kernel, ⟨by decide +kernel, by decide +kernel⟩, by decide +kernel, by decide⟩
theorem ik_M_hour : InsK k_M_hour 0 := ⟨ck_M_hour, TG_at 729 (by decide +kernel) (by decide +kernel), by decide⟩
theorem vk_M_hour : VirK k_M_hour 0 := ⟨ik_M_hour, TG_sel 17 (by decide +kernel) (by decide +kernel)⟩
theorem ck_M_set : CalK k_M_set 2 := ⟨TG_at 8 (by decide +kernel) (by decide +kernel), TG_at 734 (by decide +kernel) (by decide +kernel), by decide +kernel, ⟨by decide +kernel, by decide +kernel⟩, by decide +kernel, by decide⟩
theorem ik_M_set : InsK k_M_set 2 := ⟨ck_M_set, TG_at 732 (by decide +kernel) (by decide +kernel), by decide⟩
theorem vk_M_set : VirK k_M_set 2 := ⟨ik_M_set, TG_at 733 (by decide +kernel) (by decide +kernel)⟩
theorem ck_M_isSet : CalK k_M_isSet 2 := ⟨TG_at 8 (by decide +kernel) (by decide +kernel), TG_at 737 (by decide +kernel) (by decide +kernel), by decide +kernel, ⟨by decide +kernel, by decide +kernel⟩, by decide +kernel, by decide⟩
theorem sk_M_isSet : StaK k_M_isSet 2 := ⟨ck_M_isSet, TG_at 736 (by decide +kernel) (by decide +kernel), by decide⟩
theorem ck_M_mostOf : CalK k_M_mostOf 1 := ⟨TG_at 8 (by decide +kernel) (by decide +kernel), TG_at 740 (by decide +kernel) (by decide +kernel), by decide +kernel, ⟨by decide +kernel, by decide +kernel⟩, by decide +kernel, by decide⟩
theorem sk_M_mostOf : StaK k_M_mostOf 1 := ⟨ck_M_mostOf, TG_at 739 (by decide +kernel) (by decide +kernel), by decide⟩
theorem ck_M_now : CalK k_M_now 1 := ⟨TG_at 8 (by decide +kernel) (by decide +kernel), TG_at 744 (by decide +kernel) (by decide +kernel), by decide +kernel, ⟨by decide +kernel, by decide +kernel⟩, by decide +kernel, by decide⟩
theorem ik_M_now : InsK k_M_now 1 := ⟨ck_M_now, TG_at 742 (by decide +kernel) (by decide +kernel), by decide⟩
theorem vk_M_now : VirK k_M_now 1 := ⟨ik_M_now, TG_at 743 (by decide +kernel) (by decide +kernel)⟩
theorem ck_M_heat : CalK k_M_heat 0 := ⟨TG_at 8 (by decide +kernel) (by decide +kernel), TG_at 748 (by decide +kernel) (by decide +kernel), by decide +kernel, ⟨by decide +kernel, by decide +kernel⟩, by decide +kernel, by decide⟩
theorem ik_M_heat : InsK k_M_heat 0 := ⟨ck_M_heat, TG_at 747 (by decide +kernel) (by decide +kernel), by decide⟩
theorem vk_M_heat : VirK k_M_heat 0 := ⟨ik_M_heat, TG_sel 18 (by decide +kernel) (by decide +kernel)⟩
theorem ck_M_weight : CalK k_M_weight 0 := ⟨TG_at 8 (by decide +kernel) (by decide +kernel), TG_at 752 (by decide +kernel) (by decide +kernel), by decide +kernel, ⟨by decide +kernel, by decide +kernel⟩, by decide +kernel, by decide⟩
theorem ik_M_weight : InsK k_M_weight 0 := ⟨ck_M_weight, TG_at 751 (by decide +kernel) (by decide +kernel), by decide⟩
theorem vk_M_weight : VirK k_M_weight 0 := ⟨ik_M_weight, TG_sel 19 (by decide +kernel) (by decide +kernel)⟩
theorem ck_M_isOut : CalK k_M_isOut 0 := ⟨TG_at 8 (by decide +kernel) (by decide +kernel), TG_at 756 (by decide +kernel) (by decide +kernel), by decide +kernel, ⟨by decide +kernel, by decide +kernel⟩, by decide +kernel, by decide⟩
theorem ik_M_isOut : InsK k_M_isOut 0 := ⟨ck_M_isOut, TG_at 755 (by decide +kernel) (by decide +kernel), by decide⟩
theorem vk_M_isOut : VirK k_M_isOut 0 := ⟨ik_M_isOut, TG_sel 20 (by decide +kernel) (by decide +kernel)⟩
theorem ck_M_soft : CalK k_M_soft 2 := ⟨TG_at 8 (by decide +kernel) (by decide +kernel), TG_at 760 (by decide +kernel) (by decide +kernel), by decide +kernel, ⟨by decide +kernel, by decide +kernel⟩, by decide +kernel, by decide⟩
theorem ik_M_soft : InsK k_M_soft 2 := ⟨ck_M_soft, TG_at 758 (by decide +kernel) (by decide +kernel), by decide⟩
theorem vk_M_soft : VirK k_M_soft 2 := ⟨ik_M_soft, TG_at 759 (by decide +kernel) (by decide +kernel)⟩
theorem ck_M_wind : CalK k_M_wind 1 := ⟨TG_at 8 (by decide +kernel) (by decide +kernel), TG_at 764 (by decide +kernel) (by decide +kernel), by decide +kernel, ⟨by decide +kernel, by decide +kernel⟩, by decide +kernel, by decide⟩
theorem ik_M_wind : InsK k_M_wind 1 := ⟨ck_M_wind, TG_at 762 (by decide +kernel) (by decide +kernel), by decide⟩
theorem vk_M_wind : VirK k_M_wind 1 := ⟨ik_M_wind, TG_at 763 (by decide +kernel) (by decide +kernel)⟩
theorem ck_M_draw : CalK k_M_draw 0 := ⟨TG_at 8 (by decide +kernel) (by decide +kernel), TG_at 768 (by decide +kernel) (by decide +kernel), by decide +kernel, ⟨by decide +kernel, by decide +kernel⟩, by decide +kernel, by decide⟩
theorem ik_M_draw : InsK k_M_draw 0 := ⟨ck_M_draw, TG_at 767 (by decide +kernel) (by decide +kernel), by decide⟩
theorem vk_M_draw : VirK k_M_draw 0 := ⟨ik_M_draw, TG_sel 21 (by decide +kernel) (by decide +kernel)⟩
theorem ck_M_allFirm : CalK k_M_allFirm 0 := ⟨TG_at 8 (by decide +kernel) (by decide +kernel), TG_at 773 (by decide +kernel) (by decide +kernel), by decide +kernel, ⟨by decide +kernel, by decide +kernel⟩, by decide +kernel, by decide⟩
theorem ik_M_allFirm : InsK k_M_allFirm 0 := ⟨ck_M_allFirm, TG_at 772 (by decide +kernel) (by decide +kernel), by decide⟩
theorem vk_M_allFirm : VirK k_M_allFirm 0 := ⟨ik_M_allFirm, TG_sel 22 (by decide +kernel) (by decide +kernel)⟩
theorem ck_M_effort : CalK k_M_effort 2 := ⟨TG_at 8 (by decide +kernel) (by decide +kernel), TG_at 777 (by decide +kernel) (by decide +kernel), by decide +kernel, ⟨by decide +kernel, by decide +kernel⟩, by decide +kernel, by decide⟩
theorem ik_M_effort : InsK k_M_effort 2 := ⟨ck_M_effort, TG_at 775 (by decide +kernel) (by decide +kernel), by decide⟩
theorem vk_M_effort : VirK k_M_effort 2 := ⟨ik_M_effort, TG_at 776 (by decide +kernel) (by decide +kernel)⟩
theorem ck_M_isSlot : CalK k_M_isSlot 1 := ⟨TG_at 8 (by decide +kernel) (by decide +kernel), TG_at 780 (by decide +kernel) (by decide +kernel), by decide +kernel, ⟨by decide +kernel, by decide +kernel⟩, by decide +kernel, by decide⟩
theorem sk_M_isSlot : StaK k_M_isSlot 1 := ⟨ck_M_isSlot, TG_at 779 (by decide +kernel) (by decide +kernel), by decide⟩
theorem ck_M_isKind : CalK k_M_isKind 1 := ⟨TG_at 8 (by decide +kernel) (by decide +kernel), TG_at 783 (by decide +kernel) (by decide +kernel), by decide +kernel, ⟨by decide +kernel, by decide +kernel⟩, by decide +kernel, by decide⟩
theorem sk_M_isKind : StaK k_M_isKind 1 := ⟨ck_M_isKind, TG_at 782 (by decide +kernel) (by decide +kernel), by decide⟩
theorem ck_M_effortOf : CalK k_M_effortOf 2 := ⟨TG_at 8 (by decide +kernel) (by decide +kernel), TG_at 787 (by decide +kernel) (by decide +kernel), by decide +kernel, ⟨by decide +kernel, by decide +kernel⟩, by decide +kernel, by decide⟩
theorem ik_M_effortOf : InsK k_M_effortOf 2 := ⟨ck_M_effortOf, TG_at 785 (by decide +kernel) (by decide +kernel), by decide⟩
theorem vk_M_effortOf : VirK k_M_effortOf 2 := ⟨ik_M_effortOf, TG_at 786 (by decide +kernel) (by decide +kernel)⟩
theorem ck_M_minutesOf : CalK k_M_minutesOf 1 := ⟨TG_at 8 (by decide +kernel) (by decide +kernel), TG_at 791 (by decide +kernel) (by decide +kernel), by decide +kernel, ⟨by decide +kernel, by decide +kernel⟩, by decide +kernel, by decide⟩
theorem ik_M_minutesOf : InsK k_M_minutesOf 1 := ⟨ck_M_minutesOf, TG_at 790 (by decide +kernel) (by decide +kernel), by decide⟩
theorem vk_M_minutesOf : VirK k_M_minutesOf 1 := ⟨ik_M_minutesOf, TG_sel 23 (by decide +kernel) (by decide +kernel)⟩
theorem ck_M_workOf : CalK k_M_workOf 1 := ⟨TG_at 8 (by decide +kernel) (by decide +kernel), TG_at 794 (by decide +kernel) (by decide +kernel), by decide +kernel, ⟨by decide +kernel, by decide +kernel⟩, by decide +kernel, by decide⟩
theorem sk_M_workOf : StaK k_M_workOf 1 := ⟨ck_M_workOf, TG_at 793 (by decide +kernel) (by decide +kernel), by decide⟩
theorem ck_M_drinks : CalK k_M_drinks 1 := ⟨TG_at 8 (by decide +kernel) (by decide +kernel), TG_at 798 (by decide +kernel) (by decide +kernel), by decide +kernel, ⟨by decide +kernel, by decide +kernel⟩, by decide +kernel, by decide⟩
theorem ik_M_drinks : InsK k_M_drinks 1 := ⟨ck_M_drinks, TG_at 797 (by decide +kernel) (by decide +kernel), by decide⟩
theorem vk_M_drinks : VirK k_M_drinks 1 := ⟨ik_M_drinks, TG_sel 24 (by decide +kernel) (by decide +kernel)⟩
theorem ck_M_go : CalK k_M_go 1 := ⟨TG_at 8 (by decide +kernel) (by decide +kernel), TG_at 802 (by decide +kernel) (by decide +kernel), by decide +kernel, ⟨by decide +kernel, by decide +kernel⟩, by decide +kernel, by decide⟩
theorem ik_M_go : InsK k_M_go 1 := ⟨ck_M_go, TG_at 800 (by decide +kernel) (by decide +kernel), by decide⟩
theorem vk_M_go : VirK k_M_go 1 := ⟨ik_M_go, TG_at 801 (by decide +kernel) (by decide +kernel)⟩
theorem ck_M_canDo : CalK k_M_canDo 1 := ⟨TG_at 8 (by decide +kernel) (by decide +kernel), TG_at 806 (by decide +kernel) (by decide +kernel), by decide +kernel, ⟨by decide +kernel, by decide +kernel⟩, by decide +kernel, by decide⟩
theorem ik_M_canDo : InsK k_M_canDo 1 := ⟨ck_M_canDo, TG_at 805 (by decide +kernel) (by decide +kernel), by decide⟩
theorem vk_M_canDo : VirK k_M_canDo 1 := ⟨ik_M_canDo, TG_sel 25 (by decide +kernel) (by decide +kernel)⟩
theorem ck_M_does : CalK k_M_does 1 := ⟨TG_at 8 (by decide +kernel) (by decide +kernel), TG_at 810 (by decide +kernel) (by decide +kernel), by decide +kernel, ⟨by decide +kernel, by decide +kernel⟩, by decide +kernel, by decide⟩
theorem ik_M_does : InsK k_M_does 1 := ⟨ck_M_does, TG_at 809 (by decide +kernel) (by decide +kernel), by decide⟩
theorem vk_M_does : VirK k_M_does 1 := ⟨ik_M_does, TG_sel 26 (by decide +kernel) (by decide +kernel)⟩
theorem ck_M_digs : CalK k_M_digs 0 := ⟨TG_at 8 (by decide +kernel) (by decide +kernel), TG_at 814 (by decide +kernel) (by decide +kernel), by decide +kernel, ⟨by decide +kernel, by decide +kernel⟩, by decide +kernel, by decide⟩
theorem ik_M_digs : InsK k_M_digs 0 := ⟨ck_M_digs, TG_at 813 (by decide +kernel) (by decide +kernel), by decide⟩
theorem vk_M_digs : VirK k_M_digs 0 := ⟨ik_M_digs, TG_sel 27 (by decide +kernel) (by decide +kernel)⟩
theorem ck_M_pushes : CalK k_M_pushes 5 := ⟨TG_at 8 (by decide +kernel) (by decide +kernel), TG_at 818 (by decide +kernel) (by decide +kernel), by decide +kernel, ⟨by decide +kernel, by decide +kernel⟩, by decide +kernel, by decide⟩
theorem ik_M_pushes : InsK k_M_pushes 5 := ⟨ck_M_pushes, TG_at 817 (by decide +kernel) (by decide +kernel), by decide⟩
theorem vk_M_pushes : VirK k_M_pushes 5 := ⟨ik_M_pushes, TG_sel 28 (by decide +kernel) (by decide +kernel)⟩
theorem ck_M_gives : CalK k_M_gives 2 := ⟨TG_at 8 (by decide +kernel) (by decide +kernel), TG_at 822 (by decide +kernel) (by decide +kernel), by decide +kernel, ⟨by decide +kernel, by decide +kernel⟩, by decide +kernel, by decide⟩
theorem ik_M_gives : InsK k_M_gives 2 := ⟨ck_M_gives, TG_at 820 (by decide +kernel) (by decide +kernel), by decide⟩
theorem vk_M_gives : VirK k_M_gives 2 := ⟨ik_M_gives, TG_at 821 (by decide +kernel) (by decide +kernel)⟩
theorem ck_M_begin : CalK k_M_begin 0 := ⟨TG_at 8 (by decide +kernel) (by decide +kernel), TG_at 826 (by decide +kernel) (by decide +kernel), by decide +kernel, ⟨by decide +kernel, by decide +kernel⟩, by decide +kernel, by decide⟩
theorem ik_M_begin : InsK k_M_begin 0 := ⟨ck_M_begin, TG_at 825 (by decide +kernel) (by decide +kernel), by decide⟩
theorem vk_M_begin : VirK k_M_begin 0 := ⟨ik_M_begin, TG_sel 29 (by decide +kernel) (by decide +kernel)⟩
theorem ck_M_lay : CalK k_M_lay 2 := ⟨TG_at 8 (by decide +kernel) (by decide +kernel), TG_at 829 (by decide +kernel) (by decide +kernel), by decide +kernel, ⟨by decide +kernel, by decide +kernel⟩, by decide +kernel, by decide⟩
theorem sk_M_lay : StaK k_M_lay 2 := ⟨ck_M_lay, TG_at 828 (by decide +kernel) (by decide +kernel), by decide⟩
theorem ck_M_became : CalK k_M_became 1 := ⟨TG_at 8 (by decide +kernel) (by decide +kernel), TG_at 833 (by decide +kernel) (by decide +kernel), by decide +kernel, ⟨by decide +kernel, by decide +kernel⟩, by decide +kernel, by decide⟩
theorem ik_M_became : InsK k_M_became 1 := ⟨ck_M_became, TG_at 832 (by decide +kernel) (by decide +kernel), by decide⟩
theorem vk_M_became : VirK k_M_became 1 := ⟨ik_M_became, TG_sel 30 (by decide +kernel) (by decide +kernel)⟩
theorem ck_M_layBack : CalK k_M_layBack 0 := ⟨TG_at 8 (by decide +kernel) (by decide +kernel), TG_at 837 (by decide +kernel) (by decide +kernel), by decide +kernel, ⟨by decide +kernel, by decide +kernel⟩, by decide +kernel, by decide⟩
theorem ik_M_layBack : InsK k_M_layBack 0 := ⟨ck_M_layBack, TG_at 836 (by decide +kernel) (by decide +kernel), by decide⟩
theorem vk_M_layBack : VirK k_M_layBack 0 := ⟨ik_M_layBack, TG_sel 31 (by decide +kernel) (by decide +kernel)⟩
theorem ck_M_lasts : CalK k_M_lasts 1 := ⟨TG_at 8 (by decide +kernel) (by decide +kernel), TG_at 841 (by decide +kernel) (by decide +kernel), by decide +kernel, ⟨by decide +kernel, by decide +kernel⟩, by decide +kernel, by decide⟩
theorem ik_M_lasts : InsK k_M_lasts 1 := ⟨ck_M_lasts, TG_at 839 (by decide +kernel) (by decide +kernel), by decide⟩
theorem vk_M_lasts : VirK k_M_lasts 1 := ⟨ik_M_lasts, TG_at 840 (by decide +kernel) (by decide +kernel)⟩
theorem ck_M_again : CalK k_M_again 2 := ⟨TG_at 8 (by decide +kernel) (by decide +kernel), TG_at 845 (by decide +kernel) (by decide +kernel), by decide +kernel, ⟨by decide +kernel, by decide +kernel⟩, by decide +kernel, by decide⟩
theorem ik_M_again : InsK k_M_again 2 := ⟨ck_M_again, TG_at 844 (by decide +kernel) (by decide +kernel), by decide⟩
theorem vk_M_again : VirK k_M_again 2 := ⟨ik_M_again, TG_sel 32 (by decide +kernel) (by decide +kernel)⟩
theorem ck_M_out : CalK k_M_out 1 := ⟨TG_at 8 (by decide +kernel) (by decide +kernel), TG_at 849 (by decide +kernel) (by decide +kernel), by decide +kernel, ⟨by decide +kernel, by decide +kernel⟩, by decide +kernel, by decide⟩
theorem ik_M_out : InsK k_M_out 1 := ⟨ck_M_out, TG_at 847 (by decide +kernel) (by decide +kernel), by decide⟩
theorem vk_M_out : VirK k_M_out 1 := ⟨ik_M_out, TG_at 848 (by decide +kernel) (by decide +kernel)⟩
theorem ck_M_outBy : CalK k_M_outBy 2 := ⟨TG_at 8 (by decide +kernel) (by decide +kernel), TG_at 853 (by decide +kernel) (by decide +kernel), by decide +kernel, ⟨by decide +kernel, by decide +kernel⟩, by decide +kernel, by decide⟩
theorem ik_M_outBy : InsK k_M_outBy 2 := ⟨ck_M_outBy, TG_at 852 (by decide +kernel) (by decide +kernel), by decide⟩
theorem vk_M_outBy : VirK k_M_outBy 2 := ⟨ik_M_outBy, TG_sel 33 (by decide +kernel) (by decide +kernel)⟩
theorem ck_M_when : CalK k_M_when 1 := ⟨TG_at 8 (by decide +kernel) (by decide +kernel), TG_at 857 (by decide +kernel) (by decide +kernel), by decide +kernel, ⟨by decide +kernel, by decide +kernel⟩, by decide +kernel, by decide⟩
theorem ik_M_when : InsK k_M_when 1 := ⟨ck_M_when, TG_at 855 (by decide +kernel) (by decide +kernel), by decide⟩
theorem vk_M_when : VirK k_M_when 1 := ⟨ik_M_when, TG_at 856 (by decide +kernel) (by decide +kernel)⟩
theorem ck_M_feed : CalK k_M_feed 2 := ⟨TG_at 8 (by decide +kernel) (by decide +kernel), TG_at 861 (by decide +kernel) (by decide +kernel), by decide +kernel, ⟨by decide +kernel, by decide +kernel⟩, by decide +kernel, by decide⟩
theorem ik_M_feed : InsK k_M_feed 2 := ⟨ck_M_feed, TG_at 859 (by decide +kernel) (by decide +kernel), by decide⟩
theorem vk_M_feed : VirK k_M_feed 2 := ⟨ik_M_feed, TG_at 860 (by decide +kernel) (by decide +kernel)⟩
theorem ck_M_wipe : CalK k_M_wipe 0 := ⟨TG_at 8 (by decide +kernel) (by decide +kernel), TG_at 865 (by decide +kernel) (by decide +kernel), by decide +kernel, ⟨by decide +kernel, by decide +kernel⟩, by decide +kernel, by decide⟩
theorem ik_M_wipe : InsK k_M_wipe 0 := ⟨ck_M_wipe, TG_at 863 (by decide +kernel) (by decide +kernel), by decide⟩
theorem vk_M_wipe : VirK k_M_wipe 0 := ⟨ik_M_wipe, TG_at 864 (by decide +kernel) (by decide +kernel)⟩
theorem ck_M_text : CalK k_M_text 0 := ⟨TG_at 8 (by decide +kernel) (by decide +kernel), TG_at 869 (by decide +kernel) (by decide +kernel), by decide +kernel, ⟨by decide +kernel, by decide +kernel⟩, by decide +kernel, by decide⟩
theorem ik_M_text : InsK k_M_text 0 := ⟨ck_M_text, TG_at 867 (by decide +kernel) (by decide +kernel), by decide⟩
theorem vk_M_text : VirK k_M_text 0 := ⟨ik_M_text, TG_at 868 (by decide +kernel) (by decide +kernel)⟩
theorem ck_M_takesAll : CalK k_M_takesAll 0 := ⟨TG_at 8 (by decide +kernel) (by decide +kernel), TG_at 873 (by decide +kernel) (by decide +kernel), by decide +kernel, ⟨by decide +kernel, by decide +kernel⟩, by decide +kernel, by decide⟩
theorem ik_M_takesAll : InsK k_M_takesAll 0 := ⟨ck_M_takesAll, TG_at 872 (by decide +kernel) (by decide +kernel), by decide⟩
theorem vk_M_takesAll : VirK k_M_takesAll 0 := ⟨ik_M_takesAll, TG_sel 34 (by decide +kernel) (by decide +kernel)⟩
theorem ck_M_next : CalK k_M_next 0 := ⟨TG_at 8 (by decide +kernel) (by decide +kernel), TG_at 877 (by decide +kernel) (by decide +kernel), by decide +kernel, ⟨by decide +kernel, by decide +kernel⟩, by decide +kernel, by decide⟩
theorem ik_M_next : InsK k_M_next 0 := ⟨ck_M_next, TG_at 876 (by decide +kernel) (by decide +kernel), by decide⟩
theorem vk_M_next : VirK k_M_next 0 := ⟨ik_M_next, TG_sel 35 (by decide +kernel) (by decide +kernel)⟩
theorem ck_M_byteAt : CalK k_M_byteAt 1 := ⟨TG_at 8 (by decide +kernel) (by decide +kernel), TG_at 881 (by decide +kernel) (by decide +kernel), by decide +kernel, ⟨by decide +kernel, by decide +kernel⟩, by decide +kernel, by decide⟩
theorem ik_M_byteAt : InsK k_M_byteAt 1 := ⟨ck_M_byteAt, TG_at 880 (by decide +kernel) (by decide +kernel), by decide⟩
theorem vk_M_byteAt : VirK k_M_byteAt 1 := ⟨ik_M_byteAt, TG_sel 36 (by decide +kernel) (by decide +kernel)⟩
theorem ck_M_takesItem : CalK k_M_takesItem 0 := ⟨TG_at 8 (by decide +kernel) (by decide +kernel), TG_at 885 (by decide +kernel) (by decide +kernel), by decide +kernel, ⟨by decide +kernel, by decide +kernel⟩, by decide +kernel, by decide⟩
theorem ik_M_takesItem : InsK k_M_takesItem 0 := ⟨ck_M_takesItem, TG_at 884 (by decide +kernel) (by decide +kernel), by decide⟩
theorem vk_M_takesItem : VirK k_M_takesItem 0 := ⟨ik_M_takesItem, TG_sel 37 (by decide +kernel) (by decide +kernel)⟩
theorem ck_M_isWord : CalK k_M_isWord 1 := ⟨TG_at 8 (by decide +kernel) (by decide +kernel), TG_at 890 (by decide +kernel) (by decide +kernel), by decide +kernel, ⟨by decide +kernel, by decide +kernel⟩, by decide +kernel, by decide⟩
theorem ik_M_isWord : InsK k_M_isWord 1 := ⟨ck_M_isWord, TG_at 889 (by decide +kernel) (by decide +kernel), by decide⟩
theorem vk_M_isWord : VirK k_M_isWord 1 := ⟨ik_M_isWord, TG_sel 38 (by decide +kernel) (by decide +kernel)⟩
theorem ck_M_takesSand : CalK k_M_takesSand 0 := ⟨TG_at 8 (by decide +kernel) (by decide +kernel), TG_at 896 (by decide +kernel) (by decide +kernel), by decide +kernel, ⟨by decide +kernel, by decide +kernel⟩, by decide +kernel, by decide⟩
theorem ik_M_takesSand : InsK k_M_takesSand 0 := ⟨ck_M_takesSand, TG_at 895 (by decide +kernel) (by decide +kernel), by decide⟩
theorem vk_M_takesSand : VirK k_M_takesSand 0 := ⟨ik_M_takesSand, TG_sel 39 (by decide +kernel) (by decide +kernel)⟩
theorem ck_M_isNumber : CalK k_M_isNumber 2 := ⟨TG_at 8 (by decide +kernel) (by decide +kernel), TG_at 900 (by decide +kernel) (by decide +kernel), by decide +kernel, ⟨by decide +kernel, by decide +kernel⟩, by decide +kernel, by decide⟩
theorem ik_M_isNumber : InsK k_M_isNumber 2 := ⟨ck_M_isNumber, TG_at 899 (by decide +kernel) (by decide +kernel), by decide⟩
theorem vk_M_isNumber : VirK k_M_isNumber 2 := ⟨ik_M_isNumber, TG_sel 40 (by decide +kernel) (by decide +kernel)⟩
theorem ck_M_takesSet : CalK k_M_takesSet 1 := ⟨TG_at 8 (by decide +kernel) (by decide +kernel), TG_at 909 (by decide +kernel) (by decide +kernel), by decide +kernel, ⟨by decide +kernel, by decide +kernel⟩, by decide +kernel, by decide⟩
theorem ik_M_takesSet : InsK k_M_takesSet 1 := ⟨ck_M_takesSet, TG_at 908 (by decide +kernel) (by decide +kernel), by decide⟩
theorem vk_M_takesSet : VirK k_M_takesSet 1 := ⟨ik_M_takesSet, TG_sel 41 (by decide +kernel) (by decide +kernel)⟩
theorem ck_M_takesKind : CalK k_M_takesKind 1 := ⟨TG_at 8 (by decide +kernel) (by decide +kernel), TG_at 921 (by decide +kernel) (by decide +kernel), by decide +kernel, ⟨by decide +kernel, by decide +kernel⟩, by decide +kernel, by decide⟩
theorem ik_M_takesKind : InsK k_M_takesKind 1 := ⟨ck_M_takesKind, TG_at 920 (by decide +kernel) (by decide +kernel), by decide⟩
theorem vk_M_takesKind : VirK k_M_takesKind 1 := ⟨ik_M_takesKind, TG_sel 42 (by decide +kernel) (by decide +kernel)⟩
theorem ck_M_planOf : CalK k_M_planOf 1 := ⟨TG_at 8 (by decide +kernel) (by decide +kernel), TG_at 925 (by decide +kernel) (by decide +kernel), by decide +kernel, ⟨by decide +kernel, by decide +kernel⟩, by decide +kernel, by decide⟩
theorem ik_M_planOf : InsK k_M_planOf 1 := ⟨ck_M_planOf, TG_at 923 (by decide +kernel) (by decide +kernel), by decide⟩
theorem vk_M_planOf : VirK k_M_planOf 1 := ⟨ik_M_planOf, TG_at 924 (by decide +kernel) (by decide +kernel)⟩
theorem ck_M_clear : CalK k_M_clear 0 := ⟨TG_at 8 (by decide +kernel) (by decide +kernel), TG_at 929 (by decide +kernel) (by decide +kernel), by decide +kernel, ⟨by decide +kernel, by decide +kernel⟩, by decide +kernel, by decide⟩
theorem ik_M_clear : InsK k_M_clear 0 := ⟨ck_M_clear, TG_at 927 (by decide +kernel) (by decide +kernel), by decide⟩
theorem vk_M_clear : VirK k_M_clear 0 := ⟨ik_M_clear, TG_at 928 (by decide +kernel) (by decide +kernel)⟩
theorem ck_M_follow : CalK k_M_follow 0 := ⟨TG_at 8 (by decide +kernel) (by decide +kernel), TG_at 933 (by decide +kernel) (by decide +kernel), by decide +kernel, ⟨by decide +kernel, by decide +kernel⟩, by decide +kernel, by decide⟩
theorem ik_M_follow : InsK k_M_follow 0 := ⟨ck_M_follow, TG_at 931 (by decide +kernel) (by decide +kernel), by decide⟩
theorem vk_M_follow : VirK k_M_follow 0 := ⟨ik_M_follow, TG_at 932 (by decide +kernel) (by decide +kernel)⟩
theorem ck_M_follows : CalK k_M_follows 0 := ⟨TG_at 8 (by decide +kernel) (by decide +kernel), TG_at 937 (by decide +kernel) (by decide +kernel), by decide +kernel, ⟨by decide +kernel, by decide +kernel⟩, by decide +kernel, by decide⟩
theorem ik_M_follows : InsK k_M_follows 0 := ⟨ck_M_follows, TG_at 936 (by decide +kernel) (by decide +kernel), by decide⟩
theorem vk_M_follows : VirK k_M_follows 0 := ⟨ik_M_follows, TG_sel 43 (by decide +kernel) (by decide +kernel)⟩
theorem ck_M_plans : CalK k_M_plans 1 := ⟨TG_at 8 (by decide +kernel) (by decide +kernel), TG_at 941 (by decide +kernel) (by decide +kernel), by decide +kernel, ⟨by decide +kernel, by decide +kernel⟩, by decide +kernel, by decide⟩
theorem ik_M_plans : InsK k_M_plans 1 := ⟨ck_M_plans, TG_at 939 (by decide +kernel) (by decide +kernel), by decide⟩
theorem vk_M_plans : VirK k_M_plans 1 := ⟨ik_M_plans, TG_at 940 (by decide +kernel) (by decide +kernel)⟩
theorem ck_M_best : CalK k_M_best 2 := ⟨TG_at 8 (by decide +kernel) (by decide +kernel), TG_at 945 (by decide +kernel) (by decide +kernel), by decide +kernel, ⟨by decide +kernel, by decide +kernel⟩, by decide +kernel, by decide⟩
theorem ik_M_best : InsK k_M_best 2 := ⟨ck_M_best, TG_at 943 (by decide +kernel) (by decide +kernel), by decide⟩
theorem vk_M_best : VirK k_M_best 2 := ⟨ik_M_best, TG_at 944 (by decide +kernel) (by decide +kernel)⟩
theorem ck_M_doesRow : CalK k_M_doesRow 2 := ⟨TG_at 8 (by decide +kernel) (by decide +kernel), TG_at 949 (by decide +kernel) (by decide +kernel), by decide +kernel, ⟨by decide +kernel, by decide +kernel⟩, by decide +kernel, by decide⟩
theorem ik_M_doesRow : InsK k_M_doesRow 2 := ⟨ck_M_doesRow, TG_at 948 (by decide +kernel) (by decide +kernel), by decide⟩
theorem vk_M_doesRow : VirK k_M_doesRow 2 := ⟨ik_M_doesRow, TG_sel 44 (by decide +kernel) (by decide +kernel)⟩
theorem ck_M_digits : CalK k_M_digits 2 := ⟨TG_at 8 (by decide +kernel) (by decide +kernel), TG_at 952 (by decide +kernel) (by decide +kernel), by decide +kernel, ⟨by decide +kernel, by decide +kernel⟩, by decide +kernel, by decide⟩
theorem sk_M_digits : StaK k_M_digits 2 := ⟨ck_M_digits, TG_at 951 (by decide +kernel) (by decide +kernel), by decide⟩
theorem ck_M_airFor : CalK k_M_airFor 1 := ⟨TG_at 8 (by decide +kernel) (by decide +kernel), TG_at 956 (by decide +kernel) (by decide +kernel), by decide +kernel, ⟨by decide +kernel, by decide +kernel⟩, by decide +kernel, by decide⟩
theorem ik_M_airFor : InsK k_M_airFor 1 := ⟨ck_M_airFor, TG_at 954 (by decide +kernel) (by decide +kernel), by decide⟩
theorem vk_M_airFor : VirK k_M_airFor 1 := ⟨ik_M_airFor, TG_at 955 (by decide +kernel) (by decide +kernel)⟩
theorem ck_M_sacksFor : CalK k_M_sacksFor 1 := ⟨TG_at 8 (by decide +kernel) (by decide +kernel), TG_at 960 (by decide +kernel) (by decide +kernel), by decide +kernel, ⟨by decide +kernel, by decide +kernel⟩, by decide +kernel, by decide⟩
theorem ik_M_sacksFor : InsK k_M_sacksFor 1 := ⟨ck_M_sacksFor, TG_at 958 (by decide +kernel) (by decide +kernel), by decide⟩
theorem vk_M_sacksFor : VirK k_M_sacksFor 1 := ⟨ik_M_sacksFor, TG_at 959 (by decide +kernel) (by decide +kernel)⟩
theorem ck_M_waterFor : CalK k_M_waterFor 0 := ⟨TG_at 8 (by decide +kernel) (by decide +kernel), TG_at 964 (by decide +kernel) (by decide +kernel), by decide +kernel, ⟨by decide +kernel, by decide +kernel⟩, by decide +kernel, by decide⟩
theorem ik_M_waterFor : InsK k_M_waterFor 0 := ⟨ck_M_waterFor, TG_at 962 (by decide +kernel) (by decide +kernel), by decide⟩
theorem vk_M_waterFor : VirK k_M_waterFor 0 := ⟨ik_M_waterFor, TG_at 963 (by decide +kernel) (by decide +kernel)⟩
theorem ck_M_boardsFor : CalK k_M_boardsFor 1 := ⟨TG_at 8 (by decide +kernel) (by decide +kernel), TG_at 969 (by decide +kernel) (by decide +kernel), by decide +kernel, ⟨by decide +kernel, by decide +kernel⟩, by decide +kernel, by decide⟩
theorem ik_M_boardsFor : InsK k_M_boardsFor 1 := ⟨ck_M_boardsFor, TG_at 967 (by decide +kernel) (by decide +kernel), by decide⟩
theorem vk_M_boardsFor : VirK k_M_boardsFor 1 := ⟨ik_M_boardsFor, TG_at 968 (by decide +kernel) (by decide +kernel)⟩
theorem ck_M_way : CalK k_M_way 0 := ⟨TG_at 8 (by decide +kernel) (by decide +kernel), TG_at 973 (by decide +kernel) (by decide +kernel), by decide +kernel, ⟨by decide +kernel, by decide +kernel⟩, by decide +kernel, by decide⟩
theorem ik_M_way : InsK k_M_way 0 := ⟨ck_M_way, TG_at 971 (by decide +kernel) (by decide +kernel), by decide⟩
theorem vk_M_way : VirK k_M_way 0 := ⟨ik_M_way, TG_at 972 (by decide +kernel) (by decide +kernel)⟩
theorem ck_M_odds : CalK k_M_odds 1 := ⟨TG_at 8 (by decide +kernel) (by decide +kernel), TG_at 977 (by decide +kernel) (by decide +kernel), by decide +kernel, ⟨by decide +kernel, by decide +kernel⟩, by decide +kernel, by decide⟩
theorem ik_M_odds : InsK k_M_odds 1 := ⟨ck_M_odds, TG_at 975 (by decide +kernel) (by decide +kernel), by decide⟩
theorem vk_M_odds : VirK k_M_odds 1 := ⟨ik_M_odds, TG_at 976 (by decide +kernel) (by decide +kernel)⟩
theorem ck_M_seed : CalK k_M_seed 1 := ⟨TG_at 8 (by decide +kernel) (by decide +kernel), TG_at 981 (by decide +kernel) (by decide +kernel), by decide +kernel, ⟨by decide +kernel, by decide +kernel⟩, by decide +kernel, by decide⟩
theorem ik_M_seed : InsK k_M_seed 1 := ⟨ck_M_seed, TG_at 979 (by decide +kernel) (by decide +kernel), by decide⟩
theorem vk_M_seed : VirK k_M_seed 1 := ⟨ik_M_seed, TG_at 980 (by decide +kernel) (by decide +kernel)⟩
theorem ck_M_hold : CalK k_M_hold 2 := ⟨TG_at 8 (by decide +kernel) (by decide +kernel), TG_at 985 (by decide +kernel) (by decide +kernel), by decide +kernel, ⟨by decide +kernel, by decide +kernel⟩, by decide +kernel, by decide⟩
theorem ik_M_hold : InsK k_M_hold 2 := ⟨ck_M_hold, TG_at 983 (by decide +kernel) (by decide +kernel), by decide⟩
theorem vk_M_hold : VirK k_M_hold 2 := ⟨ik_M_hold, TG_at 984 (by decide +kernel) (by decide +kernel)⟩
theorem ck_M_as : CalK k_M_as 2 := ⟨TG_at 8 (by decide +kernel) (by decide +kernel), TG_at 989 (by decide +kernel) (by decide +kernel), by decide +kernel, ⟨by decide +kernel, by decide +kernel⟩, by decide +kernel, by decide⟩
theorem ik_M_as : InsK k_M_as 2 := ⟨ck_M_as, TG_at 987 (by decide +kernel) (by decide +kernel), by decide⟩
theorem vk_M_as : VirK k_M_as 2 := ⟨ik_M_as, TG_at 988 (by decide +kernel) (by decide +kernel)⟩
theorem ck_M_isUnder : CalK k_M_isUnder 2 := ⟨TG_at 8 (by decide +kernel) (by decide +kernel), TG_at 992 (by decide +kernel) (by decide +kernel), by decide +kernel, ⟨by decide +kernel, by decide +kernel⟩, by decide +kernel, by decide⟩
theorem sk_M_isUnder : StaK k_M_isUnder 2 := ⟨ck_M_isUnder, TG_at 991 (by decide +kernel) (by decide +kernel), by decide⟩
theorem ck_M_sheet : CalK k_M_sheet 3 := ⟨TG_at 8 (by decide +kernel) (by decide +kernel), TG_at 996 (by decide +kernel) (by decide +kernel), by decide +kernel, ⟨by decide +kernel, by decide +kernel⟩, by decide +kernel, by decide⟩
theorem ik_M_sheet : InsK k_M_sheet 3 := ⟨ck_M_sheet, TG_at 994 (by decide +kernel) (by decide +kernel), by decide⟩
theorem vk_M_sheet : VirK k_M_sheet 3 := ⟨ik_M_sheet, TG_at 995 (by decide +kernel) (by decide +kernel)⟩
theorem ck_M_isSheet : CalK k_M_isSheet 1 := ⟨TG_at 8 (by decide +kernel) (by decide +kernel), TG_at 999 (by decide +kernel) (by decide +kernel), by decide +kernel, ⟨by decide +kernel, by decide +kernel⟩, by decide +kernel, by decide⟩
theorem sk_M_isSheet : StaK k_M_isSheet 1 := ⟨ck_M_isSheet, TG_at 998 (by decide +kernel) (by decide +kernel), by decide⟩
theorem ck_M_write : CalK k_M_write 3 := ⟨TG_at 8 (by decide +kernel) (by decide +kernel), TG_at 1003 (by decide +kernel) (by decide +kernel), by decide +kernel, ⟨by decide +kernel, by decide +kernel⟩, by decide +kernel, by decide⟩
theorem ik_M_write : InsK k_M_write 3 := ⟨ck_M_write, TG_at 1001 (by decide +kernel) (by decide +kernel), by decide⟩
theorem vk_M_write : VirK k_M_write 3 := ⟨ik_M_write, TG_at 1002 (by decide +kernel) (by decide +kernel)⟩
theorem ck_M_copy : CalK k_M_copy 5 := ⟨TG_at 8 (by decide +kernel) (by decide +kernel), TG_at 1007 (by decide +kernel) (by decide +kernel), by decide +kernel, ⟨by decide +kernel, by decide +kernel⟩, by decide +kernel, by decide⟩
theorem ik_M_copy : InsK k_M_copy 5 := ⟨ck_M_copy, TG_at 1005 (by decide +kernel) (by decide +kernel), by decide⟩
theorem vk_M_copy : VirK k_M_copy 5 := ⟨ik_M_copy, TG_at 1006 (by decide +kernel) (by decide +kernel)⟩
theorem ck_M_load : CalK k_M_load 2 := ⟨TG_at 8 (by decide +kernel) (by decide +kernel), TG_at 1011 (by decide +kernel) (by decide +kernel), by decide +kernel, ⟨by decide +kernel, by decide +kernel⟩, by decide +kernel, by decide⟩
theorem ik_M_load : InsK k_M_load 2 := ⟨ck_M_load, TG_at 1009 (by decide +kernel) (by decide +kernel), by decide⟩
theorem vk_M_load : VirK k_M_load 2 := ⟨ik_M_load, TG_at 1010 (by decide +kernel) (by decide +kernel)⟩
theorem ck_M_lacks : CalK k_M_lacks 1 := ⟨TG_at 8 (by decide +kernel) (by decide +kernel), TG_at 1015 (by decide +kernel) (by decide +kernel), by decide +kernel, ⟨by decide +kernel, by decide +kernel⟩, by decide +kernel, by decide⟩
theorem ik_M_lacks : InsK k_M_lacks 1 := ⟨ck_M_lacks, TG_at 1014 (by decide +kernel) (by decide +kernel), by decide⟩
theorem vk_M_lacks : VirK k_M_lacks 1 := ⟨ik_M_lacks, TG_sel 45 (by decide +kernel) (by decide +kernel)⟩
theorem ck_M_judge : CalK k_M_judge 1 := ⟨TG_at 8 (by decide +kernel) (by decide +kernel), TG_at 1019 (by decide +kernel) (by decide +kernel), by decide +kernel, ⟨by decide +kernel, by decide +kernel⟩, by decide +kernel, by decide⟩
theorem ik_M_judge : InsK k_M_judge 1 := ⟨ck_M_judge, TG_at 1017 (by decide +kernel) (by decide +kernel), by decide⟩
theorem vk_M_judge : VirK k_M_judge 1 := ⟨ik_M_judge, TG_at 1018 (by decide +kernel) (by decide +kernel)⟩
theorem ck_M_image : CalK k_M_image 0 := ⟨TG_at 8 (by decide +kernel) (by decide +kernel), TG_at 1023 (by decide +kernel) (by decide +kernel), by decide +kernel, ⟨by decide +kernel, by decide +kernel⟩, by decide +kernel, by decide⟩
theorem ik_M_image : InsK k_M_image 0 := ⟨ck_M_image, TG_at 1021 (by decide +kernel) (by decide +kernel), by decide⟩
theorem vk_M_image : VirK k_M_image 0 := ⟨ik_M_image, TG_at 1022 (by decide +kernel) (by decide +kernel)⟩
theorem ck_M_undo : CalK k_M_undo 0 := ⟨TG_at 8 (by decide +kernel) (by decide +kernel), TG_at 1027 (by decide +kernel) (by decide +kernel), by decide +kernel, ⟨by decide +kernel, by decide +kernel⟩, by decide +kernel, by decide⟩
theorem ik_M_undo : InsK k_M_undo 0 := ⟨ck_M_undo, TG_at 1025 (by decide +kernel) (by decide +kernel), by decide⟩
theorem vk_M_undo : VirK k_M_undo 0 := ⟨ik_M_undo, TG_at 1026 (by decide +kernel) (by decide +kernel)⟩
theorem ck_M_tear : CalK k_M_tear 0 := ⟨TG_at 8 (by decide +kernel) (by decide +kernel), TG_at 1031 (by decide +kernel) (by decide +kernel), by decide +kernel, ⟨by decide +kernel, by decide +kernel⟩, by decide +kernel, by decide⟩
theorem ik_M_tear : InsK k_M_tear 0 := ⟨ck_M_tear, TG_at 1029 (by decide +kernel) (by decide +kernel), by decide⟩
theorem vk_M_tear : VirK k_M_tear 0 := ⟨ik_M_tear, TG_at 1030 (by decide +kernel) (by decide +kernel)⟩
theorem ck_M_count : CalK k_M_count 1 := ⟨TG_at 8 (by decide +kernel) (by decide +kernel), TG_at 1035 (by decide +kernel) (by decide +kernel), by decide +kernel, ⟨by decide +kernel, by decide +kernel⟩, by decide +kernel, by decide⟩
theorem ik_M_count : InsK k_M_count 1 := ⟨ck_M_count, TG_at 1033 (by decide +kernel) (by decide +kernel), by decide⟩
theorem vk_M_count : VirK k_M_count 1 := ⟨ik_M_count, TG_at 1034 (by decide +kernel) (by decide +kernel)⟩
theorem ck_M_told : CalK k_M_told 2 := ⟨TG_at 8 (by decide +kernel) (by decide +kernel), TG_at 1039 (by decide +kernel) (by decide +kernel), by decide +kernel, ⟨by decide +kernel, by decide +kernel⟩, by decide +kernel, by decide⟩
theorem ik_M_told : InsK k_M_told 2 := ⟨ck_M_told, TG_at 1038 (by decide +kernel) (by decide +kernel), by decide⟩
theorem vk_M_told : VirK k_M_told 2 := ⟨ik_M_told, TG_sel 46 (by decide +kernel) (by decide +kernel)⟩
theorem ck_M_status : CalK k_M_status 1 := ⟨TG_at 8 (by decide +kernel) (by decide +kernel), TG_at 1043 (by decide +kernel) (by decide +kernel), by decide +kernel, ⟨by decide +kernel, by decide +kernel⟩, by decide +kernel, by decide⟩
theorem ik_M_status : InsK k_M_status 1 := ⟨ck_M_status, TG_at 1041 (by decide +kernel) (by decide +kernel), by decide⟩
theorem vk_M_status : VirK k_M_status 1 := ⟨ik_M_status, TG_at 1042 (by decide +kernel) (by decide +kernel)⟩
theorem il_0_3 : inb 0 3 = true ∧ (0 : Int32).toNatClampNeg = 0 := by decide
theorem il_1_3 : inb 1 3 = true ∧ (1 : Int32).toNatClampNeg = 1 := by decide
theorem il_2_3 : inb 2 3 = true ∧ (2 : Int32).toNatClampNeg = 2 := by decide
theorem il_0_4 : inb 0 4 = true ∧ (0 : Int32).toNatClampNeg = 0 := by decide
theorem il_1_4 : inb 1 4 = true ∧ (1 : Int32).toNatClampNeg = 1 := by decide
theorem il_2_4 : inb 2 4 = true ∧ (2 : Int32).toNatClampNeg = 2 := by decide
theorem il_3_4 : inb 3 4 = true ∧ (3 : Int32).toNatClampNeg = 3 := by decide
theorem il_0_7 : inb 0 7 = true ∧ (0 : Int32).toNatClampNeg = 0 := by decide
theorem il_1_7 : inb 1 7 = true ∧ (1 : Int32).toNatClampNeg = 1 := by decide
theorem il_2_7 : inb 2 7 = true ∧ (2 : Int32).toNatClampNeg = 2 := by decide
theorem il_3_7 : inb 3 7 = true ∧ (3 : Int32).toNatClampNeg = 3 := by decide
theorem il_4_7 : inb 4 7 = true ∧ (4 : Int32).toNatClampNeg = 4 := by decide
theorem il_5_7 : inb 5 7 = true ∧ (5 : Int32).toNatClampNeg = 5 := by decide
theorem il_6_7 : inb 6 7 = true ∧ (6 : Int32).toNatClampNeg = 6 := by decide
theorem il_0_10 : inb 0 10 = true ∧ (0 : Int32).toNatClampNeg = 0 := by decide
theorem il_1_10 : inb 1 10 = true ∧ (1 : Int32).toNatClampNeg = 1 := by decide
theorem il_2_10 : inb 2 10 = true ∧ (2 : Int32).toNatClampNeg = 2 := by decide
theorem il_3_10 : inb 3 10 = true ∧ (3 : Int32).toNatClampNeg = 3 := by decide
theorem il_4_10 : inb 4 10 = true ∧ (4 : Int32).toNatClampNeg = 4 := by decide
theorem il_5_10 : inb 5 10 = true ∧ (5 : Int32).toNatClampNeg = 5 := by decide
theorem il_6_10 : inb 6 10 = true ∧ (6 : Int32).toNatClampNeg = 6 := by decide
theorem il_7_10 : inb 7 10 = true ∧ (7 : Int32).toNatClampNeg = 7 := by decide
theorem il_8_10 : inb 8 10 = true ∧ (8 : Int32).toNatClampNeg = 8 := by decide
theorem il_9_10 : inb 9 10 = true ∧ (9 : Int32).toNatClampNeg = 9 := by decide
theorem il_0_20 : inb 0 20 = true ∧ (0 : Int32).toNatClampNeg = 0 := by decide
theorem il_1_20 : inb 1 20 = true ∧ (1 : Int32).toNatClampNeg = 1 := by decide
theorem il_2_20 : inb 2 20 = true ∧ (2 : Int32).toNatClampNeg = 2 := by decide
theorem il_3_20 : inb 3 20 = true ∧ (3 : Int32).toNatClampNeg = 3 := by decide
theorem il_4_20 : inb 4 20 = true ∧ (4 : Int32).toNatClampNeg = 4 := by decide
theorem il_5_20 : inb 5 20 = true ∧ (5 : Int32).toNatClampNeg = 5 := by decide
theorem il_6_20 : inb 6 20 = true ∧ (6 : Int32).toNatClampNeg = 6 := by decide
theorem il_7_20 : inb 7 20 = true ∧ (7 : Int32).toNatClampNeg = 7 := by decide
theorem il_8_20 : inb 8 20 = true ∧ (8 : Int32).toNatClampNeg = 8 := by decide
theorem il_9_20 : inb 9 20 = true ∧ (9 : Int32).toNatClampNeg = 9 := by decide
theorem il_10_20 : inb 10 20 = true ∧ (10 : Int32).toNatClampNeg = 10 := by decide
theorem il_11_20 : inb 11 20 = true ∧ (11 : Int32).toNatClampNeg = 11 := by decide
theorem il_12_20 : inb 12 20 = true ∧ (12 : Int32).toNatClampNeg = 12 := by decide
theorem il_13_20 : inb 13 20 = true ∧ (13 : Int32).toNatClampNeg = 13 := by decide
theorem il_14_20 : inb 14 20 = true ∧ (14 : Int32).toNatClampNeg = 14 := by decide
theorem il_15_20 : inb 15 20 = true ∧ (15 : Int32).toNatClampNeg = 15 := by decide
theorem il_16_20 : inb 16 20 = true ∧ (16 : Int32).toNatClampNeg = 16 := by decide
theorem il_17_20 : inb 17 20 = true ∧ (17 : Int32).toNatClampNeg = 17 := by decide
theorem il_18_20 : inb 18 20 = true ∧ (18 : Int32).toNatClampNeg = 18 := by decide
theorem il_19_20 : inb 19 20 = true ∧ (19 : Int32).toNatClampNeg = 19 := by decide
theorem il_0_92 : inb 0 92 = true ∧ (0 : Int32).toNatClampNeg = 0 := by decide
theorem il_1_92 : inb 1 92 = true ∧ (1 : Int32).toNatClampNeg = 1 := by decide
theorem il_2_92 : inb 2 92 = true ∧ (2 : Int32).toNatClampNeg = 2 := by decide
theorem il_3_92 : inb 3 92 = true ∧ (3 : Int32).toNatClampNeg = 3 := by decide
theorem il_4_92 : inb 4 92 = true ∧ (4 : Int32).toNatClampNeg = 4 := by decide
theorem il_5_92 : inb 5 92 = true ∧ (5 : Int32).toNatClampNeg = 5 := by decide
theorem il_6_92 : inb 6 92 = true ∧ (6 : Int32).toNatClampNeg = 6 := by decide
theorem il_7_92 : inb 7 92 = true ∧ (7 : Int32).toNatClampNeg = 7 := by decide
theorem il_8_92 : inb 8 92 = true ∧ (8 : Int32).toNatClampNeg = 8 := by decide
theorem il_9_92 : inb 9 92 = true ∧ (9 : Int32).toNatClampNeg = 9 := by decide
theorem il_10_92 : inb 10 92 = true ∧ (10 : Int32).toNatClampNeg = 10 := by decide
theorem il_11_92 : inb 11 92 = true ∧ (11 : Int32).toNatClampNeg = 11 := by decide
theorem il_12_92 : inb 12 92 = true ∧ (12 : Int32).toNatClampNeg = 12 := by decide
theorem il_13_92 : inb 13 92 = true ∧ (13 : Int32).toNatClampNeg = 13 := by decide
theorem il_14_92 : inb 14 92 = true ∧ (14 : Int32).toNatClampNeg = 14 := by decide
theorem il_15_92 : inb 15 92 = true ∧ (15 : Int32).toNatClampNeg = 15 := by decide
theorem il_16_92 : inb 16 92 = true ∧ (16 : Int32).toNatClampNeg = 16 := by decide
theorem il_17_92 : inb 17 92 = true ∧ (17 : Int32).toNatClampNeg = 17 := by decide
theorem il_18_92 : inb 18 92 = true ∧ (18 : Int32).toNatClampNeg = 18 := by decide
theorem il_19_92 : inb 19 92 = true ∧ (19 : Int32).toNatClampNeg = 19 := by decide
theorem il_20_92 : inb 20 92 = true ∧ (20 : Int32).toNatClampNeg = 20 := by decide
theorem il_21_92 : inb 21 92 = true ∧ (21 : Int32).toNatClampNeg = 21 := by decide
theorem il_22_92 : inb 22 92 = true ∧ (22 : Int32).toNatClampNeg = 22 := by decide
theorem il_23_92 : inb 23 92 = true ∧ (23 : Int32).toNatClampNeg = 23 := by decide
theorem il_24_92 : inb 24 92 = true ∧ (24 : Int32).toNatClampNeg = 24 := by decide
theorem il_25_92 : inb 25 92 = true ∧ (25 : Int32).toNatClampNeg = 25 := by decide
theorem il_26_92 : inb 26 92 = true ∧ (26 : Int32).toNatClampNeg = 26 := by decide
theorem il_27_92 : inb 27 92 = true ∧ (27 : Int32).toNatClampNeg = 27 := by decide
theorem il_28_92 : inb 28 92 = true ∧ (28 : Int32).toNatClampNeg = 28 := by decide
theorem il_29_92 : inb 29 92 = true ∧ (29 : Int32).toNatClampNeg = 29 := by decide
theorem il_30_92 : inb 30 92 = true ∧ (30 : Int32).toNatClampNeg = 30 := by decide
theorem il_31_92 : inb 31 92 = true ∧ (31 : Int32).toNatClampNeg = 31 := by decide
theorem il_32_92 : inb 32 92 = true ∧ (32 : Int32).toNatClampNeg = 32 := by decide
theorem il_33_92 : inb 33 92 = true ∧ (33 : Int32).toNatClampNeg = 33 := by decide
theorem il_34_92 : inb 34 92 = true ∧ (34 : Int32).toNatClampNeg = 34 := by decide
theorem il_35_92 : inb 35 92 = true ∧ (35 : Int32).toNatClampNeg = 35 := by decide
theorem il_36_92 : inb 36 92 = true ∧ (36 : Int32).toNatClampNeg = 36 := by decide
theorem il_37_92 : inb 37 92 = true ∧ (37 : Int32).toNatClampNeg = 37 := by decide
theorem il_38_92 : inb 38 92 = true ∧ (38 : Int32).toNatClampNeg = 38 := by decide
theorem il_39_92 : inb 39 92 = true ∧ (39 : Int32).toNatClampNeg = 39 := by decide
theorem il_40_92 : inb 40 92 = true ∧ (40 : Int32).toNatClampNeg = 40 := by decide
theorem il_41_92 : inb 41 92 = true ∧ (41 : Int32).toNatClampNeg = 41 := by decide
theorem il_42_92 : inb 42 92 = true ∧ (42 : Int32).toNatClampNeg = 42 := by decide
theorem il_43_92 : inb 43 92 = true ∧ (43 : Int32).toNatClampNeg = 43 := by decide
theorem il_44_92 : inb 44 92 = true ∧ (44 : Int32).toNatClampNeg = 44 := by decide
theorem il_45_92 : inb 45 92 = true ∧ (45 : Int32).toNatClampNeg = 45 := by decide
theorem il_46_92 : inb 46 92 = true ∧ (46 : Int32).toNatClampNeg = 46 := by decide
theorem il_47_92 : inb 47 92 = true ∧ (47 : Int32).toNatClampNeg = 47 := by decide
theorem il_48_92 : inb 48 92 = true ∧ (48 : Int32).toNatClampNeg = 48 := by decide
theorem il_49_92 : inb 49 92 = true ∧ (49 : Int32).toNatClampNeg = 49 := by decide
theorem il_50_92 : inb 50 92 = true ∧ (50 : Int32).toNatClampNeg = 50 := by decide
theorem il_51_92 : inb 51 92 = true ∧ (51 : Int32).toNatClampNeg = 51 := by decide
theorem il_52_92 : inb 52 92 = true ∧ (52 : Int32).toNatClampNeg = 52 := by decide
theorem il_53_92 : inb 53 92 = true ∧ (53 : Int32).toNatClampNeg = 53 := by decide
theorem il_54_92 : inb 54 92 = true ∧ (54 : Int32).toNatClampNeg = 54 := by decide
theorem il_55_92 : inb 55 92 = true ∧ (55 : Int32).toNatClampNeg = 55 := by decide
theorem il_56_92 : inb 56 92 = true ∧ (56 : Int32).toNatClampNeg = 56 := by decide
theorem il_57_92 : inb 57 92 = true ∧ (57 : Int32).toNatClampNeg = 57 := by decide
theorem il_58_92 : inb 58 92 = true ∧ (58 : Int32).toNatClampNeg = 58 := by decide
theorem il_59_92 : inb 59 92 = true ∧ (59 : Int32).toNatClampNeg = 59 := by decide
theorem il_60_92 : inb 60 92 = true ∧ (60 : Int32).toNatClampNeg = 60 := by decide
theorem il_61_92 : inb 61 92 = true ∧ (61 : Int32).toNatClampNeg = 61 := by decide
theorem il_62_92 : inb 62 92 = true ∧ (62 : Int32).toNatClampNeg = 62 := by decide
theorem il_63_92 : inb 63 92 = true ∧ (63 : Int32).toNatClampNeg = 63 := by decide
theorem il_64_92 : inb 64 92 = true ∧ (64 : Int32).toNatClampNeg = 64 := by decide
theorem il_65_92 : inb 65 92 = true ∧ (65 : Int32).toNatClampNeg = 65 := by decide
theorem il_66_92 : inb 66 92 = true ∧ (66 : Int32).toNatClampNeg = 66 := by decide
theorem il_67_92 : inb 67 92 = true ∧ (67 : Int32).toNatClampNeg = 67 := by decide
theorem il_68_92 : inb 68 92 = true ∧ (68 : Int32).toNatClampNeg = 68 := by decide
theorem il_69_92 : inb 69 92 = true ∧ (69 : Int32).toNatClampNeg = 69 := by decide
theorem il_70_92 : inb 70 92 = true ∧ (70 : Int32).toNatClampNeg = 70 := by decide
theorem il_71_92 : inb 71 92 = true ∧ (71 : Int32).toNatClampNeg = 71 := by decide
theorem il_72_92 : inb 72 92 = true ∧ (72 : Int32).toNatClampNeg = 72 := by decide
theorem il_73_92 : inb 73 92 = true ∧ (73 : Int32).toNatClampNeg = 73 := by decide
theorem il_74_92 : inb 74 92 = true ∧ (74 : Int32).toNatClampNeg = 74 := by decide
theorem il_75_92 : inb 75 92 = true ∧ (75 : Int32).toNatClampNeg = 75 := by decide
theorem il_76_92 : inb 76 92 = true ∧ (76 : Int32).toNatClampNeg = 76 := by decide
theorem il_77_92 : inb 77 92 = true ∧ (77 : Int32).toNatClampNeg = 77 := by decide
theorem il_78_92 : inb 78 92 = true ∧ (78 : Int32).toNatClampNeg = 78 := by decide
theorem il_79_92 : inb 79 92 = true ∧ (79 : Int32).toNatClampNeg = 79 := by decide
theorem il_80_92 : inb 80 92 = true ∧ (80 : Int32).toNatClampNeg = 80 := by decide
theorem il_81_92 : inb 81 92 = true ∧ (81 : Int32).toNatClampNeg = 81 := by decide
theorem il_82_92 : inb 82 92 = true ∧ (82 : Int32).toNatClampNeg = 82 := by decide
theorem il_83_92 : inb 83 92 = true ∧ (83 : Int32).toNatClampNeg = 83 := by decide
theorem il_84_92 : inb 84 92 = true ∧ (84 : Int32).toNatClampNeg = 84 := by decide
theorem il_85_92 : inb 85 92 = true ∧ (85 : Int32).toNatClampNeg = 85 := by decide
theorem il_86_92 : inb 86 92 = true ∧ (86 : Int32).toNatClampNeg = 86 := by decide
theorem il_87_92 : inb 87 92 = true ∧ (87 : Int32).toNatClampNeg = 87 := by decide
theorem il_88_92 : inb 88 92 = true ∧ (88 : Int32).toNatClampNeg = 88 := by decide
theorem il_89_92 : inb 89 92 = true ∧ (89 : Int32).toNatClampNeg = 89 := by decide
theorem il_90_92 : inb 90 92 = true ∧ (90 : Int32).toNatClampNeg = 90 := by decide
theorem il_91_92 : inb 91 92 = true ∧ (91 : Int32).toNatClampNeg = 91 := by decide
