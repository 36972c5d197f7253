def f_M_digits (p1 p2 : Int32) (S : St) : Option (Int32 × St) := let x3 : Int32 := (if p1 = 1 then p2 else (if p1 = 2 then (((p2 / 8) * 10) + (p2 - p2 / 8 * 8)) else ((((p2 / 64) * 100) + (((p2 / 8) - (p2 / 8) / 8 * 8) * 10)) + (p2 - p2 / 8 * 8)))); some (x3, S)
set_option maxRecDepth 4000 in
theorem w_M_digits {X : xC} {d : Nat}  (p1 p2 : Int32) (S : St) : SemG eI X k_M_digits (d) 0 [some (.int p1), some (.int p2)] [] S (f_M_digits  p1 p2 S) := by
  unfold f_M_digits
  refine g_iload_n d_M_digits_0 rfl ?_
  refine g_iconst d_M_digits_1 ?_
  refine m_icmp_ne d_M_digits_2 (fun hJ2 => g_iload_n d_M_digits_9 rfl (g_iconst d_M_digits_10 (m_icmp_ne d_M_digits_11 (fun hJ1 => g_iload_n d_M_digits_29 rfl (g_bipush d_M_digits_30 (g_idiv d_M_digits_32 (by decide) (g_bipush d_M_digits_33 (g_imul d_M_digits_35 (g_iload_n d_M_digits_36 rfl (g_bipush d_M_digits_37 (g_idiv d_M_digits_39 (by decide) (g_bipush d_M_digits_40 (g_irem d_M_digits_42 (by decide) (g_bipush d_M_digits_43 (g_imul d_M_digits_45 (g_iadd d_M_digits_46 (g_iload_n d_M_digits_47 rfl (g_bipush d_M_digits_48 (g_irem d_M_digits_50 (by decide) (g_iadd d_M_digits_51 hJ1))))))))))))))))) (fun hJ1 => g_iload_n d_M_digits_14 rfl (g_bipush d_M_digits_15 (g_idiv d_M_digits_17 (by decide) (g_bipush d_M_digits_18 (g_imul d_M_digits_20 (g_iload_n d_M_digits_21 rfl (g_bipush d_M_digits_22 (g_irem d_M_digits_24 (by decide) (g_iadd d_M_digits_25 (g_goto d_M_digits_26 hJ1)))))))))) hJ2))) (fun hJ2 => g_iload_n d_M_digits_5 rfl (g_goto d_M_digits_6 hJ2)) ?_
  exact g_ireturn d_M_digits_52 rfl rfl rfl
def f_M_doesRow_L40 : Nat → Int32 → Int32 → Int32 → Bool → Int32 → St → Option (Bool × St)
  | 0, _, _, _, _, _, _ => none
  | n + 1, y1, y2, y3, y4, y5, S => (if y1 ≤ y5 then some (y4, S) else (if (bI y4) = 0 then some (y4, S) else (if inb y5 3 = true then ((f_M_canDo (S 52 (y5).toNatClampNeg) S).bind fun q5 => (if (bI q5.1) = 0 then f_M_doesRow_L40   n y1 y2 y3 q5.1 (y5 + 1) q5.2 else ((f_M_does (q5.2 52 (y5).toNatClampNeg) q5.2).bind fun q7 => f_M_doesRow_L40   n y1 y2 y3 q5.1 (y5 + 1) q7))) else none)))
set_option maxRecDepth 4000 in
theorem w_M_doesRow_L40 {X : xC} {d : Nat}   : ∀ (n : Nat) (y1 : Int32) (y2 : Int32) (y3 : Int32) (y4 : Bool) (y5 : Int32) (S : St), SemG eB X k_M_doesRow (d + 5) 40 [some (.ref (xB X + 46)), some (.int y1), some (.int y2), some (.int y3), some (.int (bI y4)), some (.int y5)] [] S (f_M_doesRow_L40   n y1 y2 y3 y4 y5 S) := by
  intro n
  induction n with
  | zero => intro _ _ _ _ _ _; exact g_none
  | succ n ih =>
    intro y1 y2 y3 y4 y5 S
    unfold f_M_doesRow_L40
    refine g_iload d_M_doesRow_40 rfl ?_
    refine g_iload_n d_M_doesRow_42 rfl ?_
    refine s_icmp_ge d_M_doesRow_43 (fun u2 => ?_) (fun u2 => ?_)
    · refine g_iload d_M_doesRow_86 rfl ?_
      refine g_zreturn d_M_doesRow_88 rfl ?_ rfl
      rfl
    · refine g_iload d_M_doesRow_46 rfl ?_
      refine s_if_eq d_M_doesRow_48 (fun u3 => ?_) (fun u3 => ?_)
      · refine g_iload d_M_doesRow_86 rfl ?_
        refine g_zreturn d_M_doesRow_88 rfl ?_ rfl
        rfl
      · refine g_aload_n d_M_doesRow_51 rfl ?_
        refine g_aload_n d_M_doesRow_52 rfl ?_
        refine g_getR d_M_doesRow_53 fl_M_25 rfl rfl ?_
        refine g_iload d_M_doesRow_56 rfl ?_
        refine g_guard (fun hb4 => ?_)
        refine g_ild d_M_doesRow_58 rfl hb4 rfl ?_
        refine g_callV1B d_M_doesRow_59 ml_M_114 vk_M_canDo rfl ⟨_, rfl, rfl⟩ rfl (Nat.le_of_ble_eq_true rfl) (w_M_canDo (X := X) (d := d + 1) _ _) (fun q5 => ?_)
        refine g_istore d_M_doesRow_62 (by decide) ?_
        refine g_iload d_M_doesRow_64 rfl ?_
        refine s_if_eq d_M_doesRow_66 (fun u6 => ?_) (fun u6 => ?_)
        · refine g_iinc d_M_doesRow_80 (by decide) rfl ?_
          refine g_goto d_M_doesRow_83 ?_
          exact ih _ _ _ _ _ _
        · refine g_aload_n d_M_doesRow_69 rfl ?_
          refine g_aload_n d_M_doesRow_70 rfl ?_
          refine g_getR d_M_doesRow_71 fl_M_25 rfl rfl ?_
          refine g_iload d_M_doesRow_74 rfl ?_
          refine g_ild d_M_doesRow_76 rfl hb4 rfl ?_
          refine g_callV1V d_M_doesRow_77 ml_M_117 vk_M_does rfl ⟨_, rfl, rfl⟩ rfl (Nat.le_of_ble_eq_true rfl) (w_M_does (X := X) (d := d) _ _) (fun q7 => ?_)
          refine g_iinc d_M_doesRow_80 (by decide) rfl ?_
          refine g_goto d_M_doesRow_83 ?_
          exact ih _ _ _ _ _ _
def f_M_doesRow_L7 : Nat → Int32 → Int32 → Int32 → Int32 → St → Option (Bool × St)
  | 0, _, _, _, _, _ => none
  | n + 1, y1, y2, y3, y4, S => (if y4 < 0 then f_M_doesRow_L40   200 y1 y2 y3 true 0 S else (if inb y4 3 = true then let S9 := put S 52 (y4).toNatClampNeg (y3 - y3 / 8 * 8); f_M_doesRow_L7   n y1 y2 (y3 / 8) (y4 + (-1)) S9 else none))
set_option maxRecDepth 4000 in
theorem w_M_doesRow_L7 {X : xC} {d : Nat}   : ∀ (n : Nat) (y1 : Int32) (y2 : Int32) (y3 : Int32) (y4 : Int32) (S : St), SemG eB X k_M_doesRow (d + 5) 7 [some (.ref (xB X + 46)), some (.int y1), some (.int y2), some (.int y3), some (.int y4), none] [] S (f_M_doesRow_L7   n y1 y2 y3 y4 S) := by
  intro n
  induction n with
  | zero => intro _ _ _ _ _; exact g_none
  | succ n ih =>
    intro y1 y2 y3 y4 S
    unfold f_M_doesRow_L7
    refine g_iload d_M_doesRow_7 rfl ?_
    refine s_if_lt d_M_doesRow_9 (fun u1 => ?_) (fun u1 => ?_)
    · refine g_iconst d_M_doesRow_34 ?_
      refine g_istore d_M_doesRow_35 (by decide) ?_
      refine g_iconst d_M_doesRow_37 ?_
      refine g_istore d_M_doesRow_38 (by decide) ?_
      exact w_M_doesRow_L40 (X := X) (d := d) 200 _ _ _ _ _ _
    · refine g_aload_n d_M_doesRow_12 rfl ?_
      refine g_getR d_M_doesRow_13 fl_M_25 rfl rfl ?_
      refine g_iload d_M_doesRow_16 rfl ?_
      refine g_iload_n d_M_doesRow_18 rfl ?_
      refine g_bipush d_M_doesRow_19 ?_
      refine g_irem d_M_doesRow_21 (by decide) ?_
      refine g_guard (fun hb8 => ?_)
      refine g_ist d_M_doesRow_22 rfl hb8 rfl ?_
      refine g_iload_n d_M_doesRow_23 rfl ?_
      refine g_bipush d_M_doesRow_24 ?_
      refine g_idiv d_M_doesRow_26 (by decide) ?_
      refine g_istore_n d_M_doesRow_27 (by decide) ?_
      refine g_iinc d_M_doesRow_28 (by decide) rfl ?_
      refine g_goto d_M_doesRow_31 ?_
      exact ih _ _ _ _ _
def f_M_doesRow (p1 p2 : Int32) (S : St) : Option (Bool × St) := f_M_doesRow_L7   200 p1 p2 p2 (p1 - 1) S
set_option maxRecDepth 4000 in
theorem w_M_doesRow {X : xC} {d : Nat}  (p1 p2 : Int32) (S : St) : SemG eB X k_M_doesRow (d + 5) 0 [some (.ref (xB X + 46)), some (.int p1), some (.int p2), none, none, none] [] S (f_M_doesRow  p1 p2 S) := by
  unfold f_M_doesRow
  refine g_iload_n d_M_doesRow_0 rfl ?_
  refine g_istore_n d_M_doesRow_1 (by decide) ?_
  refine g_iload_n d_M_doesRow_2 rfl ?_
  refine g_iconst d_M_doesRow_3 ?_
  refine g_isub d_M_doesRow_4 ?_
  refine g_istore d_M_doesRow_5 (by decide) ?_
  exact w_M_doesRow_L7 (X := X) (d := d) 200 _ _ _ _ _
def f_M_best_L60 : Nat → Int32 → Int32 → Int32 → Int32 → Int32 → Int32 → Int32 → St → Option (Int32 × St)
  | 0, _, _, _, _, _, _, _, _ => none
  | n + 1, y1, y2, y3, y4, y5, y6, y7, S => (if y3 ≤ y7 then (if 0 ≤ y4 then (if y2 = 0 then some (y5, S) else (if y2 = 1 then some (y6, S) else ((f_M_digits y1 y4 S).bind fun q13 => some (q13.1, q13.2)))) else ((f_M_finding 3 S).bind fun q14 => some (q14.1, q14.2))) else ((f_M_begin S).bind fun q15 => ((f_M_doesRow y1 y7 q15).bind fun q16 => let x17 : Int32 := ((q16.2 47 0) - (q16.2 49 0)); let x18 : Int32 := ((q16.2 47 8) - (q16.2 49 8)); ((f_M_layBack q16.2).bind fun q19 => (if (bI q16.1) = 0 then f_M_best_L60   n y1 y2 y3 y4 y5 y6 (y7 + 1) q19 else (if y4 < 0 then f_M_best_L60   n y1 y2 y3 y7 x17 x18 (y7 + 1) q19 else (if y5 < x17 then f_M_best_L60   n y1 y2 y3 y7 x17 x18 (y7 + 1) q19 else (if x17 = y5 then (if y6 ≤ x18 then f_M_best_L60   n y1 y2 y3 y4 y5 y6 (y7 + 1) q19 else f_M_best_L60   n y1 y2 y3 y7 x17 x18 (y7 + 1) q19) else f_M_best_L60   n y1 y2 y3 y4 y5 y6 (y7 + 1) q19))))))))
set_option maxRecDepth 4000 in
theorem w_M_best_L60 {X : xC} {d : Nat}   : ∀ (n : Nat) (y1 : Int32) (y2 : Int32) (y3 : Int32) (y4 : Int32) (y5 : Int32) (y6 : Int32) (y7 : Int32) (S : St), SemG eI X k_M_best (d + 6) 60 [some (.ref (xB X + 46)), some (.int y1), some (.int y2), some (.int y3), some (.int y4), some (.int y5), some (.int y6), some (.int y7), none, none, none] [] S (f_M_best_L60   n y1 y2 y3 y4 y5 y6 y7 S) := by
  intro n
  induction n with
  | zero => intro _ _ _ _ _ _ _ _; exact g_none
  | succ n ih =>
    intro y1 y2 y3 y4 y5 y6 y7 S
    unfold f_M_best_L60
    refine g_iload d_M_best_60 rfl ?_
    refine g_iload_n d_M_best_62 rfl ?_
    refine s_icmp_ge d_M_best_63 (fun u9 => ?_) (fun u9 => ?_)
    · refine g_iload d_M_best_164 rfl ?_
      refine s_if_ge d_M_best_166 (fun u10 => ?_) (fun u10 => ?_)
      · refine g_iload_n d_M_best_175 rfl ?_
        refine s_if_ne d_M_best_176 (fun u11 => ?_) (fun u11 => ?_)
        · refine g_iload_n d_M_best_184 rfl ?_
          refine g_iconst d_M_best_185 ?_
          refine s_icmp_ne d_M_best_186 (fun u12 => ?_) (fun u12 => ?_)
          · refine g_iload_n d_M_best_194 rfl ?_
            refine g_iload d_M_best_195 rfl ?_
            refine g_callS2I d_M_best_197 ml_M_223 sk_M_digits rfl rfl (Nat.le_of_ble_eq_true rfl) (w_M_digits (X := X) (d := d + 5) _ _ _) (fun q13 => ?_)
            exact g_ireturn d_M_best_200 rfl rfl rfl
          · refine g_iload d_M_best_189 rfl ?_
            refine g_goto d_M_best_191 ?_
            exact g_ireturn d_M_best_200 rfl rfl rfl
        · refine g_iload d_M_best_179 rfl ?_
          refine g_goto d_M_best_181 ?_
          exact g_ireturn d_M_best_200 rfl rfl rfl
      · refine g_aload_n d_M_best_169 rfl ?_
        refine g_iconst d_M_best_170 ?_
        refine g_callV1I d_M_best_171 ml_M_61 vk_M_finding rfl ⟨_, rfl, rfl⟩ rfl (Nat.le_of_ble_eq_true rfl) (w_M_finding (X := X) (d := d + 5) _ _) (fun q14 => ?_)
        exact g_ireturn d_M_best_174 rfl rfl rfl
    · refine g_aload_n d_M_best_66 rfl ?_
      refine g_callV0V d_M_best_67 ml_M_124 vk_M_begin rfl ⟨_, rfl, rfl⟩ (Nat.le_of_ble_eq_true rfl) (w_M_begin (X := X) (d := d + 4) _) (fun q15 => ?_)
      refine g_aload_n d_M_best_70 rfl ?_
      refine g_iload_n d_M_best_71 rfl ?_
      refine g_iload d_M_best_72 rfl ?_
      refine g_callV2B d_M_best_74 ml_M_220 vk_M_doesRow rfl ⟨_, rfl, rfl⟩ rfl rfl (Nat.le_of_ble_eq_true rfl) (w_M_doesRow (X := X) (d := d) _ _ _) (fun q16 => ?_)
      refine g_istore d_M_best_77 (by decide) ?_
      refine g_aload_n d_M_best_79 rfl ?_
      refine g_getR d_M_best_80 fl_M_7 rfl rfl ?_
      refine g_iconst d_M_best_83 ?_
      refine g_ild d_M_best_84 rfl il_0_92.1 il_0_92.2 ?_
      refine g_aload_n d_M_best_85 rfl ?_
      refine g_getR d_M_best_86 fl_M_16 rfl rfl ?_
      refine g_iconst d_M_best_89 ?_
      refine g_ild d_M_best_90 rfl il_0_92.1 il_0_92.2 ?_
      refine g_isub d_M_best_91 ?_
      refine g_istore d_M_best_92 (by decide) ?_
      refine g_aload_n d_M_best_94 rfl ?_
      refine g_getR d_M_best_95 fl_M_7 rfl rfl ?_
      refine g_bipush d_M_best_98 ?_
      refine g_ild d_M_best_100 rfl il_8_92.1 il_8_92.2 ?_
      refine g_aload_n d_M_best_101 rfl ?_
      refine g_getR d_M_best_102 fl_M_16 rfl rfl ?_
      refine g_bipush d_M_best_105 ?_
      refine g_ild d_M_best_107 rfl il_8_92.1 il_8_92.2 ?_
      refine g_isub d_M_best_108 ?_
      refine g_istore d_M_best_109 (by decide) ?_
      refine g_aload_n d_M_best_111 rfl ?_
      refine g_callV0V d_M_best_112 ml_M_121 vk_M_layBack rfl ⟨_, rfl, rfl⟩ (Nat.le_of_ble_eq_true rfl) (w_M_layBack (X := X) (d := d + 4) _) (fun q19 => ?_)
      refine g_iload d_M_best_115 rfl ?_
      refine s_if_eq d_M_best_117 (fun u20 => ?_) (fun u20 => ?_)
      · refine g_iinc d_M_best_158 (by decide) rfl ?_
        refine g_goto d_M_best_161 ?_
        refine g_drop 8 ?_
        refine g_drop 9 ?_
        refine g_drop 10 ?_
        exact ih _ _ _ _ _ _ _ _
      · refine g_iload d_M_best_120 rfl ?_
        refine s_if_lt d_M_best_122 (fun u21 => ?_) (fun u21 => ?_)
        · refine g_iload d_M_best_146 rfl ?_
          refine g_istore d_M_best_148 (by decide) ?_
          refine g_iload d_M_best_150 rfl ?_
          refine g_istore d_M_best_152 (by decide) ?_
          refine g_iload d_M_best_154 rfl ?_
          refine g_istore d_M_best_156 (by decide) ?_
          refine g_iinc d_M_best_158 (by decide) rfl ?_
          refine g_goto d_M_best_161 ?_
          refine g_drop 8 ?_
          refine g_drop 9 ?_
          refine g_drop 10 ?_
          exact ih _ _ _ _ _ _ _ _
        · refine g_iload d_M_best_125 rfl ?_
          refine g_iload d_M_best_127 rfl ?_
          refine s_icmp_gt d_M_best_129 (fun u22 => ?_) (fun u22 => ?_)
          · refine g_iload d_M_best_146 rfl ?_
            refine g_istore d_M_best_148 (by decide) ?_
            refine g_iload d_M_best_150 rfl ?_
            refine g_istore d_M_best_152 (by decide) ?_
            refine g_iload d_M_best_154 rfl ?_
            refine g_istore d_M_best_156 (by decide) ?_
            refine g_iinc d_M_best_158 (by decide) rfl ?_
            refine g_goto d_M_best_161 ?_
            refine g_drop 8 ?_
            refine g_drop 9 ?_
            refine g_drop 10 ?_
            exact ih _ _ _ _ _ _ _ _
          · refine g_iload d_M_best_132 rfl ?_
            refine g_iload d_M_best_134 rfl ?_
            refine s_icmp_ne d_M_best_136 (fun u23 => ?_) (fun u23 => ?_)
            · refine g_iinc d_M_best_158 (by decide) rfl ?_
              refine g_goto d_M_best_161 ?_
              refine g_drop 8 ?_
              refine g_drop 9 ?_
              refine g_drop 10 ?_
              exact ih _ _ _ _ _ _ _ _
            · refine g_iload d_M_best_139 rfl ?_
              refine g_iload d_M_best_141 rfl ?_
              refine s_icmp_ge d_M_best_143 (fun u24 => ?_) (fun u24 => ?_)
              · refine g_iinc d_M_best_158 (by decide) rfl ?_
                refine g_goto d_M_best_161 ?_
                refine g_drop 8 ?_
                refine g_drop 9 ?_
                refine g_drop 10 ?_
                exact ih _ _ _ _ _ _ _ _
              · refine g_iload d_M_best_146 rfl ?_
                refine g_istore d_M_best_148 (by decide) ?_
                refine g_iload d_M_best_150 rfl ?_
                refine g_istore d_M_best_152 (by decide) ?_
                refine g_iload d_M_best_154 rfl ?_
                refine g_istore d_M_best_156 (by decide) ?_
                refine g_iinc d_M_best_158 (by decide) rfl ?_
                refine g_goto d_M_best_161 ?_
                refine g_drop 8 ?_
                refine g_drop 9 ?_
                refine g_drop 10 ?_
                exact ih _ _ _ _ _ _ _ _
def f_M_best (p1 p2 : Int32) (S : St) : Option (Int32 × St) := ((f_M_in p1 1 3 S).bind fun q1 => (if (bI q1.1) = 0 then ((f_M_finding 0 q1.2).bind fun q3 => some (q3.1, q3.2)) else ((f_M_in p2 0 2 q1.2).bind fun q4 => (if (bI q4.1) = 0 then ((f_M_finding 0 q4.2).bind fun q25 => some (q25.1, q25.2)) else let x8 : Int32 := (if p1 = 1 then 8 else (if p1 = 2 then 64 else 512)); f_M_best_L60   600 p1 p2 x8 (-1) 0 0 0 q4.2))))
set_option maxRecDepth 4000 in
theorem w_M_best {X : xC} {d : Nat}  (p1 p2 : Int32) (S : St) : SemG eI X k_M_best (d + 6) 0 [some (.ref (xB X + 46)), some (.int p1), some (.int p2), none, none, none, none, none, none, none, none] [] S (f_M_best  p1 p2 S) := by
  unfold f_M_best
  refine g_iload_n d_M_best_0 rfl ?_
  refine g_iconst d_M_best_1 ?_
  refine g_iconst d_M_best_2 ?_
  refine g_callS3B d_M_best_3 ml_M_45 sk_M_in rfl rfl rfl (Nat.le_of_ble_eq_true rfl) (w_M_in (X := X) (d := d + 5) _ _ _ _) (fun q1 => ?_)
  refine s_if_eq d_M_best_6 (fun u2 => ?_) (fun u2 => ?_)
  · refine g_aload_n d_M_best_18 rfl ?_
    refine g_iconst d_M_best_19 ?_
    refine g_callV1I d_M_best_20 ml_M_61 vk_M_finding rfl ⟨_, rfl, rfl⟩ rfl (Nat.le_of_ble_eq_true rfl) (w_M_finding (X := X) (d := d + 5) _ _) (fun q3 => ?_)
    exact g_ireturn d_M_best_23 rfl rfl rfl
  · refine g_iload_n d_M_best_9 rfl ?_
    refine g_iconst d_M_best_10 ?_
    refine g_iconst d_M_best_11 ?_
    refine g_callS3B d_M_best_12 ml_M_45 sk_M_in rfl rfl rfl (Nat.le_of_ble_eq_true rfl) (w_M_in (X := X) (d := d + 5) _ _ _ _) (fun q4 => ?_)
    refine s_if_ne d_M_best_15 (fun u5 => ?_) (fun u5 => ?_)
    · refine g_iload_n d_M_best_24 rfl ?_
      refine g_iconst d_M_best_25 ?_
      refine m_icmp_ne d_M_best_26 (fun hJ7 => g_iload_n d_M_best_34 rfl (g_iconst d_M_best_35 (m_icmp_ne d_M_best_36 (fun hJ6 => g_sipush d_M_best_44 hJ6) (fun hJ6 => g_bipush d_M_best_39 (g_goto d_M_best_41 hJ6)) hJ7))) (fun hJ7 => g_bipush d_M_best_29 (g_goto d_M_best_31 hJ7)) ?_
      refine g_istore_n d_M_best_47 (by decide) ?_
      refine g_iconst d_M_best_48 ?_
      refine g_istore d_M_best_49 (by decide) ?_
      refine g_iconst d_M_best_51 ?_
      refine g_istore d_M_best_52 (by decide) ?_
      refine g_iconst d_M_best_54 ?_
      refine g_istore d_M_best_55 (by decide) ?_
      refine g_iconst d_M_best_57 ?_
      refine g_istore d_M_best_58 (by decide) ?_
      exact w_M_best_L60 (X := X) (d := d) 600 _ _ _ _ _ _ _ _
    · refine g_aload_n d_M_best_18 rfl ?_
      refine g_iconst d_M_best_19 ?_
      refine g_callV1I d_M_best_20 ml_M_61 vk_M_finding rfl ⟨_, rfl, rfl⟩ rfl (Nat.le_of_ble_eq_true rfl) (w_M_finding (X := X) (d := d + 5) _ _) (fun q25 => ?_)
      exact g_ireturn d_M_best_23 rfl rfl rfl
def f_M_airFor_L15 : Nat → Int32 → Int32 → St → Option (Int32 × St)
  | 0, _, _, _ => none
  | n + 1, y1, y2, S => (if 9 < y2 then ((f_M_finding 3 S).bind fun q4 => some (q4.1, q4.2)) else (if inb (12 + y1) 92 = true then ((f_M_gripOf (S 47 ((12 + y1)).toNatClampNeg) y2 S).bind fun q6 => ((f_M_weight q6.2).bind fun q7 => (if q6.1 < q7.1 then f_M_airFor_L15   n y1 (y2 + 1) q7.2 else some (y2, q7.2)))) else none))
set_option maxRecDepth 4000 in
theorem w_M_airFor_L15 {X : xC} {d : Nat}   : ∀ (n : Nat) (y1 : Int32) (y2 : Int32) (S : St), SemG eI X k_M_airFor (d + 2) 15 [some (.ref (xB X + 46)), some (.int y1), some (.int y2)] [] S (f_M_airFor_L15   n y1 y2 S) := by
  intro n
  induction n with
  | zero => intro _ _ _; exact g_none
  | succ n ih =>
    intro y1 y2 S
    unfold f_M_airFor_L15
    refine g_iload_n d_M_airFor_15 rfl ?_
    refine g_bipush d_M_airFor_16 ?_
    refine s_icmp_gt d_M_airFor_18 (fun u3 => ?_) (fun u3 => ?_)
    · refine g_aload_n d_M_airFor_50 rfl ?_
      refine g_iconst d_M_airFor_51 ?_
      refine g_callV1I d_M_airFor_52 ml_M_61 vk_M_finding rfl ⟨_, rfl, rfl⟩ rfl (Nat.le_of_ble_eq_true rfl) (w_M_finding (X := X) (d := d + 1) _ _) (fun q4 => ?_)
      exact g_ireturn d_M_airFor_55 rfl rfl rfl
    · refine g_aload_n d_M_airFor_21 rfl ?_
      refine g_aload_n d_M_airFor_22 rfl ?_
      refine g_getR d_M_airFor_23 fl_M_7 rfl rfl ?_
      refine g_bipush d_M_airFor_26 ?_
      refine g_iload_n d_M_airFor_28 rfl ?_
      refine g_iadd d_M_airFor_29 ?_
      refine g_guard (fun hb5 => ?_)
      refine g_ild d_M_airFor_30 rfl hb5 rfl ?_
      refine g_iload_n d_M_airFor_31 rfl ?_
      refine g_callV2I d_M_airFor_32 ml_M_57 vk_M_gripOf rfl ⟨_, rfl, rfl⟩ rfl rfl (Nat.le_of_ble_eq_true rfl) (w_M_gripOf (X := X) (d := d) _ _ _) (fun q6 => ?_)
      refine g_aload_n d_M_airFor_35 rfl ?_
      refine g_callV0I d_M_airFor_36 ml_M_78 vk_M_weight rfl ⟨_, rfl, rfl⟩ (Nat.le_of_ble_eq_true rfl) (w_M_weight (X := X) (d := d + 1) _) (fun q7 => ?_)
      refine s_icmp_lt d_M_airFor_39 (fun u8 => ?_) (fun u8 => ?_)
      · refine g_iinc d_M_airFor_44 (by decide) rfl ?_
        refine g_goto d_M_airFor_47 ?_
        exact ih _ _ _
      · refine g_iload_n d_M_airFor_42 rfl ?_
        exact g_ireturn d_M_airFor_43 rfl rfl rfl
def f_M_airFor (p1 : Int32) (S : St) : Option (Int32 × St) := ((f_M_isYard p1 S).bind fun q1 => (if (bI q1.1) = 0 then ((f_M_finding 0 q1.2).bind fun q9 => some (q9.1, q9.2)) else f_M_airFor_L15   200 p1 0 q1.2))
set_option maxRecDepth 4000 in
theorem w_M_airFor {X : xC} {d : Nat}  (p1 : Int32) (S : St) : SemG eI X k_M_airFor (d + 2) 0 [some (.ref (xB X + 46)), some (.int p1), none] [] S (f_M_airFor  p1 S) := by
  unfold f_M_airFor
  refine g_iload_n d_M_airFor_0 rfl ?_
  refine g_callS1B d_M_airFor_1 ml_M_49 sk_M_isYard rfl (Nat.le_of_ble_eq_true rfl) (w_M_isYard (X := X) (d := d) _ _) (fun q1 => ?_)
  refine s_if_ne d_M_airFor_4 (fun u2 => ?_) (fun u2 => ?_)
  · refine g_iconst d_M_airFor_13 ?_
    refine g_istore_n d_M_airFor_14 (by decide) ?_
    exact w_M_airFor_L15 (X := X) (d := d) 200 _ _ _
  · refine g_aload_n d_M_airFor_7 rfl ?_
    refine g_iconst d_M_airFor_8 ?_
    refine g_callV1I d_M_airFor_9 ml_M_61 vk_M_finding rfl ⟨_, rfl, rfl⟩ rfl (Nat.le_of_ble_eq_true rfl) (w_M_finding (X := X) (d := d + 1) _ _) (fun q9 => ?_)
    exact g_ireturn d_M_airFor_12 rfl rfl rfl
def f_M_sacksFor_L16 : Nat → Int32 → Int32 → St → Option (Int32 × St)
  | 0, _, _, _ => none
  | n + 1, y1, y2, S => (if y2 < 0 then ((f_M_finding 3 S).bind fun q4 => some (q4.1, q4.2)) else ((f_M_grip y1 S).bind fun q5 => (if q5.1 < (20 + (y2 / 2)) then f_M_sacksFor_L16   n y1 (y2 + (-1)) q5.2 else some (y2, q5.2))))
set_option maxRecDepth 4000 in
theorem w_M_sacksFor_L16 {X : xC} {d : Nat}   : ∀ (n : Nat) (y1 : Int32) (y2 : Int32) (S : St), SemG eI X k_M_sacksFor (d + 3) 16 [some (.ref (xB X + 46)), some (.int y1), some (.int y2)] [] S (f_M_sacksFor_L16   n y1 y2 S) := by
  intro n
  induction n with
  | zero => intro _ _ _; exact g_none
  | succ n ih =>
    intro y1 y2 S
    unfold f_M_sacksFor_L16
    refine g_iload_n d_M_sacksFor_16 rfl ?_
    refine s_if_lt d_M_sacksFor_17 (fun u3 => ?_) (fun u3 => ?_)
    · refine g_aload_n d_M_sacksFor_42 rfl ?_
      refine g_iconst d_M_sacksFor_43 ?_
      refine g_callV1I d_M_sacksFor_44 ml_M_61 vk_M_finding rfl ⟨_, rfl, rfl⟩ rfl (Nat.le_of_ble_eq_true rfl) (w_M_finding (X := X) (d := d + 2) _ _) (fun q4 => ?_)
      exact g_ireturn d_M_sacksFor_47 rfl rfl rfl
    · refine g_aload_n d_M_sacksFor_20 rfl ?_
      refine g_iload_n d_M_sacksFor_21 rfl ?_
      refine g_callV1I d_M_sacksFor_22 ml_M_65 vk_M_grip rfl ⟨_, rfl, rfl⟩ rfl (Nat.le_of_ble_eq_true rfl) (w_M_grip (X := X) (d := d) _ _) (fun q5 => ?_)
      refine g_bipush d_M_sacksFor_25 ?_
      refine g_iload_n d_M_sacksFor_27 rfl ?_
      refine g_iconst d_M_sacksFor_28 ?_
      refine g_idiv d_M_sacksFor_29 (by decide) ?_
      refine g_iadd d_M_sacksFor_30 ?_
      refine s_icmp_lt d_M_sacksFor_31 (fun u6 => ?_) (fun u6 => ?_)
      · refine g_iinc d_M_sacksFor_36 (by decide) rfl ?_
        refine g_goto d_M_sacksFor_39 ?_
        exact ih _ _ _
      · refine g_iload_n d_M_sacksFor_34 rfl ?_
        exact g_ireturn d_M_sacksFor_35 rfl rfl rfl
def f_M_sacksFor (p1 : Int32) (S : St) : Option (Int32 × St) := ((f_M_isYard p1 S).bind fun q1 => (if (bI q1.1) = 0 then ((f_M_finding 0 q1.2).bind fun q7 => some (q7.1, q7.2)) else f_M_sacksFor_L16   200 p1 99 q1.2))
set_option maxRecDepth 4000 in
theorem w_M_sacksFor {X : xC} {d : Nat}  (p1 : Int32) (S : St) : SemG eI X k_M_sacksFor (d + 3) 0 [some (.ref (xB X + 46)), some (.int p1), none] [] S (f_M_sacksFor  p1 S) := by
  unfold f_M_sacksFor
  refine g_iload_n d_M_sacksFor_0 rfl ?_
  refine g_callS1B d_M_sacksFor_1 ml_M_49 sk_M_isYard rfl (Nat.le_of_ble_eq_true rfl) (w_M_isYard (X := X) (d := d + 1) _ _) (fun q1 => ?_)
  refine s_if_ne d_M_sacksFor_4 (fun u2 => ?_) (fun u2 => ?_)
  · refine g_bipush d_M_sacksFor_13 ?_
    refine g_istore_n d_M_sacksFor_15 (by decide) ?_
    exact w_M_sacksFor_L16 (X := X) (d := d) 200 _ _ _
  · refine g_aload_n d_M_sacksFor_7 rfl ?_
    refine g_iconst d_M_sacksFor_8 ?_
    refine g_callV1I d_M_sacksFor_9 ml_M_61 vk_M_finding rfl ⟨_, rfl, rfl⟩ rfl (Nat.le_of_ble_eq_true rfl) (w_M_finding (X := X) (d := d + 2) _ _) (fun q7 => ?_)
    exact g_ireturn d_M_sacksFor_12 rfl rfl rfl
def f_M_waterFor_L10 : Nat → Int32 → Int32 → Int32 → St → Option (Int32 × St)
  | 0, _, _, _, _ => none
  | n + 1, y1, y2, y3, S => (if (S 47 11) ≤ y1 then ((f_M_layBack S).bind fun q3 => (if y3 = 0 then ((f_M_finding 3 q3).bind fun q5 => some (q5.1, q5.2)) else (if 9999 < y2 then ((f_M_finding 3 q3).bind fun q7 => some (q7.1, q7.2)) else some (y2, q3)))) else (if y3 = 0 then ((f_M_layBack S).bind fun q9 => (if y3 = 0 then ((f_M_finding 3 q9).bind fun q11 => some (q11.1, q11.2)) else (if 9999 < y2 then ((f_M_finding 3 q9).bind fun q13 => some (q13.1, q13.2)) else some (y2, q9)))) else let S14 := put S 47 6 999999; (if inb (72 + y1) 92 = true then ((f_M_canDo (S14 47 ((72 + y1)).toNatClampNeg) S14).bind fun q16 => (if (bI q16.1) = 0 then f_M_waterFor_L10   n y1 y2 (bI q16.1) q16.2 else ((f_M_drinks (q16.2 47 ((72 + y1)).toNatClampNeg) q16.2).bind fun q18 => ((f_M_does (q18.2 47 ((72 + y1)).toNatClampNeg) q18.2).bind fun q19 => f_M_waterFor_L10   n (y1 + 1) (y2 + q18.1) (bI q16.1) q19)))) else none)))
set_option maxRecDepth 4000 in
theorem w_M_waterFor_L10 {X : xC} {d : Nat}   : ∀ (n : Nat) (y1 : Int32) (y2 : Int32) (y3 : Int32) (S : St), SemG eI X k_M_waterFor (d + 5) 10 [some (.ref (xB X + 46)), some (.int y1), some (.int y2), some (.int y3)] [] S (f_M_waterFor_L10   n y1 y2 y3 S) := by
  intro n
  induction n with
  | zero => intro _ _ _ _; exact g_none
  | succ n ih =>
    intro y1 y2 y3 S
    unfold f_M_waterFor_L10
    refine g_iload_n d_M_waterFor_10 rfl ?_
    refine g_aload_n d_M_waterFor_11 rfl ?_
    refine g_getR d_M_waterFor_12 fl_M_7 rfl rfl ?_
    refine g_bipush d_M_waterFor_15 ?_
    refine g_ild d_M_waterFor_17 rfl il_11_92.1 il_11_92.2 ?_
    refine s_icmp_ge d_M_waterFor_18 (fun u2 => ?_) (fun u2 => ?_)
    · refine g_aload_n d_M_waterFor_87 rfl ?_
      refine g_callV0V d_M_waterFor_88 ml_M_121 vk_M_layBack rfl ⟨_, rfl, rfl⟩ (Nat.le_of_ble_eq_true rfl) (w_M_layBack (X := X) (d := d + 3) _) (fun q3 => ?_)
      refine g_iload_n d_M_waterFor_91 rfl ?_
      refine s_if_eq d_M_waterFor_92 (fun u4 => ?_) (fun u4 => ?_)
      · refine g_aload_n d_M_waterFor_106 rfl ?_
        refine g_iconst d_M_waterFor_107 ?_
        refine g_callV1I d_M_waterFor_108 ml_M_61 vk_M_finding rfl ⟨_, rfl, rfl⟩ rfl (Nat.le_of_ble_eq_true rfl) (w_M_finding (X := X) (d := d + 4) _ _) (fun q5 => ?_)
        exact g_ireturn d_M_waterFor_111 rfl rfl rfl
      · refine g_iload_n d_M_waterFor_95 rfl ?_
        refine g_sipush d_M_waterFor_96 ?_
        refine s_icmp_gt d_M_waterFor_99 (fun u6 => ?_) (fun u6 => ?_)
        · refine g_aload_n d_M_waterFor_106 rfl ?_
          refine g_iconst d_M_waterFor_107 ?_
          refine g_callV1I d_M_waterFor_108 ml_M_61 vk_M_finding rfl ⟨_, rfl, rfl⟩ rfl (Nat.le_of_ble_eq_true rfl) (w_M_finding (X := X) (d := d + 4) _ _) (fun q7 => ?_)
          exact g_ireturn d_M_waterFor_111 rfl rfl rfl
        · refine g_iload_n d_M_waterFor_102 rfl ?_
          refine g_goto d_M_waterFor_103 ?_
          exact g_ireturn d_M_waterFor_111 rfl rfl rfl
    · refine g_iload_n d_M_waterFor_21 rfl ?_
      refine s_if_eq d_M_waterFor_22 (fun u8 => ?_) (fun u8 => ?_)
      · refine g_aload_n d_M_waterFor_87 rfl ?_
        refine g_callV0V d_M_waterFor_88 ml_M_121 vk_M_layBack rfl ⟨_, rfl, rfl⟩ (Nat.le_of_ble_eq_true rfl) (w_M_layBack (X := X) (d := d + 3) _) (fun q9 => ?_)
        refine g_iload_n d_M_waterFor_91 rfl ?_
        refine s_if_eq d_M_waterFor_92 (fun u10 => ?_) (fun u10 => ?_)
        · refine g_aload_n d_M_waterFor_106 rfl ?_
          refine g_iconst d_M_waterFor_107 ?_
          refine g_callV1I d_M_waterFor_108 ml_M_61 vk_M_finding rfl ⟨_, rfl, rfl⟩ rfl (Nat.le_of_ble_eq_true rfl) (w_M_finding (X := X) (d := d + 4) _ _) (fun q11 => ?_)
          exact g_ireturn d_M_waterFor_111 rfl rfl rfl
        · refine g_iload_n d_M_waterFor_95 rfl ?_
          refine g_sipush d_M_waterFor_96 ?_
          refine s_icmp_gt d_M_waterFor_99 (fun u12 => ?_) (fun u12 => ?_)
          · refine g_aload_n d_M_waterFor_106 rfl ?_
            refine g_iconst d_M_waterFor_107 ?_
            refine g_callV1I d_M_waterFor_108 ml_M_61 vk_M_finding rfl ⟨_, rfl, rfl⟩ rfl (Nat.le_of_ble_eq_true rfl) (w_M_finding (X := X) (d := d + 4) _ _) (fun q13 => ?_)
            exact g_ireturn d_M_waterFor_111 rfl rfl rfl
          · refine g_iload_n d_M_waterFor_102 rfl ?_
            refine g_goto d_M_waterFor_103 ?_
            exact g_ireturn d_M_waterFor_111 rfl rfl rfl
      · refine g_aload_n d_M_waterFor_25 rfl ?_
        refine g_getR d_M_waterFor_26 fl_M_7 rfl rfl ?_
        refine g_bipush d_M_waterFor_29 ?_
        refine g_ldc d_M_waterFor_31 cn_M_226 ?_
        refine g_ist d_M_waterFor_33 rfl il_6_92.1 il_6_92.2 ?_
        refine g_aload_n d_M_waterFor_34 rfl ?_
        refine g_aload_n d_M_waterFor_35 rfl ?_
        refine g_getR d_M_waterFor_36 fl_M_7 rfl rfl ?_
        refine g_bipush d_M_waterFor_39 ?_
        refine g_iload_n d_M_waterFor_41 rfl ?_
        refine g_iadd d_M_waterFor_42 ?_
        refine g_guard (fun hb15 => ?_)
        refine g_ild d_M_waterFor_43 rfl hb15 rfl ?_
        refine g_callV1B d_M_waterFor_44 ml_M_114 vk_M_canDo rfl ⟨_, rfl, rfl⟩ rfl (Nat.le_of_ble_eq_true rfl) (w_M_canDo (X := X) (d := d + 1) _ _) (fun q16 => ?_)
        refine g_istore_n d_M_waterFor_47 (by decide) ?_
        refine g_iload_n d_M_waterFor_48 rfl ?_
        refine s_if_eq d_M_waterFor_49 (fun u17 => ?_) (fun u17 => ?_)
        · exact ih _ _ _ _
        · refine g_iload_n d_M_waterFor_52 rfl ?_
          refine g_aload_n d_M_waterFor_53 rfl ?_
          refine g_aload_n d_M_waterFor_54 rfl ?_
          refine g_getR d_M_waterFor_55 fl_M_7 rfl rfl ?_
          refine g_bipush d_M_waterFor_58 ?_
          refine g_iload_n d_M_waterFor_60 rfl ?_
          refine g_iadd d_M_waterFor_61 ?_
          refine g_ild d_M_waterFor_62 rfl hb15 rfl ?_
          refine g_callV1I d_M_waterFor_63 ml_M_98 vk_M_drinks rfl ⟨_, rfl, rfl⟩ rfl (Nat.le_of_ble_eq_true rfl) (w_M_drinks (X := X) (d := d + 2) _ _) (fun q18 => ?_)
          refine g_iadd d_M_waterFor_66 ?_
          refine g_istore_n d_M_waterFor_67 (by decide) ?_
          refine g_aload_n d_M_waterFor_68 rfl ?_
          refine g_aload_n d_M_waterFor_69 rfl ?_
          refine g_getR d_M_waterFor_70 fl_M_7 rfl rfl ?_
          refine g_bipush d_M_waterFor_73 ?_
          refine g_iload_n d_M_waterFor_75 rfl ?_
          refine g_iadd d_M_waterFor_76 ?_
          refine g_ild d_M_waterFor_77 rfl hb15 rfl ?_
          refine g_callV1V d_M_waterFor_78 ml_M_117 vk_M_does rfl ⟨_, rfl, rfl⟩ rfl (Nat.le_of_ble_eq_true rfl) (w_M_does (X := X) (d := d) _ _) (fun q19 => ?_)
          refine g_iinc d_M_waterFor_81 (by decide) rfl ?_
          refine g_goto d_M_waterFor_84 ?_
          exact ih _ _ _ _
def f_M_waterFor (S : St) : Option (Int32 × St) := ((f_M_begin S).bind fun q1 => f_M_waterFor_L10   200 0 0 1 q1)
set_option maxRecDepth 4000 in
theorem w_M_waterFor {X : xC} {d : Nat}  (S : St) : SemG eI X k_M_waterFor (d + 5) 0 [some (.ref (xB X + 46)), none, none, none] [] S (f_M_waterFor   S) := by
  unfold f_M_waterFor
  refine g_aload_n d_M_waterFor_0 rfl ?_
  refine g_callV0V d_M_waterFor_1 ml_M_124 vk_M_begin rfl ⟨_, rfl, rfl⟩ (Nat.le_of_ble_eq_true rfl) (w_M_begin (X := X) (d := d + 3) _) (fun q1 => ?_)
  refine g_iconst d_M_waterFor_4 ?_
  refine g_istore_n d_M_waterFor_5 (by decide) ?_
  refine g_iconst d_M_waterFor_6 ?_
  refine g_istore_n d_M_waterFor_7 (by decide) ?_
  refine g_iconst d_M_waterFor_8 ?_
  refine g_istore_n d_M_waterFor_9 (by decide) ?_
  exact w_M_waterFor_L10 (X := X) (d := d) 200 _ _ _ _
def f_M_boardsFor_L20 : Nat → Int32 → Int32 → Int32 → St → Option (Int32 × St)
  | 0, _, _, _, _ => none
  | n + 1, y1, y2, y3, S => (if 8 < y3 then (if 0 ≤ y2 then some (y2, S) else ((f_M_finding 3 S).bind fun q5 => some (q5.1, q5.2))) else (if 0 ≤ y2 then (if 0 ≤ y2 then some (y2, S) else ((f_M_finding 3 S).bind fun q8 => some (q8.1, q8.2))) else ((f_M_begin S).bind fun q9 => let S10 := put q9 47 4 y3; ((f_M_canDo 2 S10).bind fun q11 => (if (bI q11.1) = 0 then let x15 : Int32 := (if (bI q11.1) = 0 then (-1) else (if ((q11.2 47 0) - (q11.2 49 0)) < y1 then (-1) else y3)); ((f_M_layBack q11.2).bind fun q16 => f_M_boardsFor_L20   n y1 x15 (y3 + 1) q16) else ((f_M_does 2 q11.2).bind fun q17 => let x20 : Int32 := (if (bI q11.1) = 0 then (-1) else (if ((q17 47 0) - (q17 49 0)) < y1 then (-1) else y3)); ((f_M_layBack q17).bind fun q21 => f_M_boardsFor_L20   n y1 x20 (y3 + 1) q21)))))))
set_option maxRecDepth 4000 in
theorem w_M_boardsFor_L20 {X : xC} {d : Nat}   : ∀ (n : Nat) (y1 : Int32) (y2 : Int32) (y3 : Int32) (S : St), SemG eI X k_M_boardsFor (d + 5) 20 [some (.ref (xB X + 46)), some (.int y1), some (.int y2), some (.int y3), none] [] S (f_M_boardsFor_L20   n y1 y2 y3 S) := by
  intro n
  induction n with
  | zero => intro _ _ _ _; exact g_none
  | succ n ih =>
    intro y1 y2 y3 S
    unfold f_M_boardsFor_L20
    refine g_iload_n d_M_boardsFor_20 rfl ?_
    refine g_bipush d_M_boardsFor_21 ?_
    refine s_icmp_gt d_M_boardsFor_23 (fun u3 => ?_) (fun u3 => ?_)
    · refine g_iload_n d_M_boardsFor_96 rfl ?_
      refine s_if_ge d_M_boardsFor_97 (fun u4 => ?_) (fun u4 => ?_)
      · refine g_iload_n d_M_boardsFor_108 rfl ?_
        exact g_ireturn d_M_boardsFor_109 rfl rfl rfl
      · refine g_aload_n d_M_boardsFor_100 rfl ?_
        refine g_iconst d_M_boardsFor_101 ?_
        refine g_callV1I d_M_boardsFor_102 ml_M_61 vk_M_finding rfl ⟨_, rfl, rfl⟩ rfl (Nat.le_of_ble_eq_true rfl) (w_M_finding (X := X) (d := d + 4) _ _) (fun q5 => ?_)
        refine g_goto d_M_boardsFor_105 ?_
        exact g_ireturn d_M_boardsFor_109 rfl rfl rfl
    · refine g_iload_n d_M_boardsFor_26 rfl ?_
      refine s_if_ge d_M_boardsFor_27 (fun u6 => ?_) (fun u6 => ?_)
      · refine g_iload_n d_M_boardsFor_96 rfl ?_
        refine s_if_ge d_M_boardsFor_97 (fun u7 => ?_) (fun u7 => ?_)
        · refine g_iload_n d_M_boardsFor_108 rfl ?_
          exact g_ireturn d_M_boardsFor_109 rfl rfl rfl
        · refine g_aload_n d_M_boardsFor_100 rfl ?_
          refine g_iconst d_M_boardsFor_101 ?_
          refine g_callV1I d_M_boardsFor_102 ml_M_61 vk_M_finding rfl ⟨_, rfl, rfl⟩ rfl (Nat.le_of_ble_eq_true rfl) (w_M_finding (X := X) (d := d + 4) _ _) (fun q8 => ?_)
          refine g_goto d_M_boardsFor_105 ?_
          exact g_ireturn d_M_boardsFor_109 rfl rfl rfl
      · refine g_aload_n d_M_boardsFor_30 rfl ?_
        refine g_callV0V d_M_boardsFor_31 ml_M_124 vk_M_begin rfl ⟨_, rfl, rfl⟩ (Nat.le_of_ble_eq_true rfl) (w_M_begin (X := X) (d := d + 3) _) (fun q9 => ?_)
        refine g_aload_n d_M_boardsFor_34 rfl ?_
        refine g_getR d_M_boardsFor_35 fl_M_7 rfl rfl ?_
        refine g_iconst d_M_boardsFor_38 ?_
        refine g_iload_n d_M_boardsFor_39 rfl ?_
        refine g_ist d_M_boardsFor_40 rfl il_4_92.1 il_4_92.2 ?_
        refine g_aload_n d_M_boardsFor_41 rfl ?_
        refine g_iconst d_M_boardsFor_42 ?_
        refine g_callV1B d_M_boardsFor_43 ml_M_114 vk_M_canDo rfl ⟨_, rfl, rfl⟩ rfl (Nat.le_of_ble_eq_true rfl) (w_M_canDo (X := X) (d := d + 1) _ _) (fun q11 => ?_)
        refine g_istore d_M_boardsFor_46 (by decide) ?_
        refine g_iload d_M_boardsFor_48 rfl ?_
        refine s_if_eq d_M_boardsFor_50 (fun u12 => ?_) (fun u12 => ?_)
        · refine g_iload d_M_boardsFor_58 rfl ?_
          refine m_if_eq d_M_boardsFor_60 (fun hJ14 => g_iconst d_M_boardsFor_84 hJ14) (fun hJ14 => g_aload_n d_M_boardsFor_63 rfl (g_getR d_M_boardsFor_64 fl_M_7 rfl rfl (g_iconst d_M_boardsFor_67 (g_ild d_M_boardsFor_68 rfl il_0_92.1 il_0_92.2 (g_aload_n d_M_boardsFor_69 rfl (g_getR d_M_boardsFor_70 fl_M_16 rfl rfl (g_iconst d_M_boardsFor_73 (g_ild d_M_boardsFor_74 rfl il_0_92.1 il_0_92.2 (g_isub d_M_boardsFor_75 (g_iload_n d_M_boardsFor_76 rfl (m_icmp_lt d_M_boardsFor_77 (fun hJ13 => g_iconst d_M_boardsFor_84 hJ13) (fun hJ13 => g_iload_n d_M_boardsFor_80 rfl (g_goto d_M_boardsFor_81 hJ13)) hJ14))))))))))) ?_
          refine g_istore_n d_M_boardsFor_85 (by decide) ?_
          refine g_aload_n d_M_boardsFor_86 rfl ?_
          refine g_callV0V d_M_boardsFor_87 ml_M_121 vk_M_layBack rfl ⟨_, rfl, rfl⟩ (Nat.le_of_ble_eq_true rfl) (w_M_layBack (X := X) (d := d + 3) _) (fun q16 => ?_)
          refine g_iinc d_M_boardsFor_90 (by decide) rfl ?_
          refine g_goto d_M_boardsFor_93 ?_
          refine g_drop 4 ?_
          exact ih _ _ _ _
        · refine g_aload_n d_M_boardsFor_53 rfl ?_
          refine g_iconst d_M_boardsFor_54 ?_
          refine g_callV1V d_M_boardsFor_55 ml_M_117 vk_M_does rfl ⟨_, rfl, rfl⟩ rfl (Nat.le_of_ble_eq_true rfl) (w_M_does (X := X) (d := d) _ _) (fun q17 => ?_)
          refine g_iload d_M_boardsFor_58 rfl ?_
          refine m_if_eq d_M_boardsFor_60 (fun hJ19 => g_iconst d_M_boardsFor_84 hJ19) (fun hJ19 => g_aload_n d_M_boardsFor_63 rfl (g_getR d_M_boardsFor_64 fl_M_7 rfl rfl (g_iconst d_M_boardsFor_67 (g_ild d_M_boardsFor_68 rfl il_0_92.1 il_0_92.2 (g_aload_n d_M_boardsFor_69 rfl (g_getR d_M_boardsFor_70 fl_M_16 rfl rfl (g_iconst d_M_boardsFor_73 (g_ild d_M_boardsFor_74 rfl il_0_92.1 il_0_92.2 (g_isub d_M_boardsFor_75 (g_iload_n d_M_boardsFor_76 rfl (m_icmp_lt d_M_boardsFor_77 (fun hJ18 => g_iconst d_M_boardsFor_84 hJ18) (fun hJ18 => g_iload_n d_M_boardsFor_80 rfl (g_goto d_M_boardsFor_81 hJ18)) hJ19))))))))))) ?_
          refine g_istore_n d_M_boardsFor_85 (by decide) ?_
          refine g_aload_n d_M_boardsFor_86 rfl ?_
          refine g_callV0V d_M_boardsFor_87 ml_M_121 vk_M_layBack rfl ⟨_, rfl, rfl⟩ (Nat.le_of_ble_eq_true rfl) (w_M_layBack (X := X) (d := d + 3) _) (fun q21 => ?_)
          refine g_iinc d_M_boardsFor_90 (by decide) rfl ?_
          refine g_goto d_M_boardsFor_93 ?_
          refine g_drop 4 ?_
          exact ih _ _ _ _
def f_M_boardsFor (p1 : Int32) (S : St) : Option (Int32 × St) := ((f_M_in p1 1 9 S).bind fun q1 => (if (bI q1.1) = 0 then ((f_M_finding 0 q1.2).bind fun q22 => some (q22.1, q22.2)) else f_M_boardsFor_L20   200 p1 (-1) 0 q1.2))
set_option maxRecDepth 4000 in
theorem w_M_boardsFor {X : xC} {d : Nat}  (p1 : Int32) (S : St) : SemG eI X k_M_boardsFor (d + 5) 0 [some (.ref (xB X + 46)), some (.int p1), none, none, none] [] S (f_M_boardsFor  p1 S) := by
  unfold f_M_boardsFor
  refine g_iload_n d_M_boardsFor_0 rfl ?_
  refine g_iconst d_M_boardsFor_1 ?_
  refine g_bipush d_M_boardsFor_2 ?_
  refine g_callS3B d_M_boardsFor_4 ml_M_45 sk_M_in rfl rfl rfl (Nat.le_of_ble_eq_true rfl) (w_M_in (X := X) (d := d + 4) _ _ _ _) (fun q1 => ?_)
  refine s_if_ne d_M_boardsFor_7 (fun u2 => ?_) (fun u2 => ?_)
  · refine g_iconst d_M_boardsFor_16 ?_
    refine g_istore_n d_M_boardsFor_17 (by decide) ?_
    refine g_iconst d_M_boardsFor_18 ?_
    refine g_istore_n d_M_boardsFor_19 (by decide) ?_
    exact w_M_boardsFor_L20 (X := X) (d := d) 200 _ _ _ _
  · refine g_aload_n d_M_boardsFor_10 rfl ?_
    refine g_iconst d_M_boardsFor_11 ?_
    refine g_callV1I d_M_boardsFor_12 ml_M_61 vk_M_finding rfl ⟨_, rfl, rfl⟩ rfl (Nat.le_of_ble_eq_true rfl) (w_M_finding (X := X) (d := d + 4) _ _) (fun q22 => ?_)
    exact g_ireturn d_M_boardsFor_15 rfl rfl rfl
def f_M_way (S : St) : Option (Int32 × St) := ((f_M_outBy 0 20 S).bind fun q1 => ((f_M_outBy 6 20 q1.2).bind fun q2 => let x8 : Int32 := (if q1.1 < 0 then (if q2.1 < 0 then 0 else (-1)) else (if q2.1 < 0 then 1 else (if q2.1 < q1.1 then (if q2.1 < 0 then 0 else (-1)) else 1))); some (x8, q2.2)))
set_option maxRecDepth 4000 in
theorem w_M_way {X : xC} {d : Nat}  (S : St) : SemG eI X k_M_way (d + 7) 0 [some (.ref (xB X + 46)), none, none] [] S (f_M_way   S) := by
  unfold f_M_way
  refine g_aload_n d_M_way_0 rfl ?_
  refine g_iconst d_M_way_1 ?_
  refine g_bipush d_M_way_2 ?_
  refine g_callV2I d_M_way_4 ml_M_133 vk_M_outBy rfl ⟨_, rfl, rfl⟩ rfl rfl (Nat.le_of_ble_eq_true rfl) (w_M_outBy (X := X) (d := d) _ _ _) (fun q1 => ?_)
  refine g_istore_n d_M_way_7 (by decide) ?_
  refine g_aload_n d_M_way_8 rfl ?_
  refine g_bipush d_M_way_9 ?_
  refine g_bipush d_M_way_11 ?_
  refine g_callV2I d_M_way_13 ml_M_133 vk_M_outBy rfl ⟨_, rfl, rfl⟩ rfl rfl (Nat.le_of_ble_eq_true rfl) (w_M_outBy (X := X) (d := d) _ _ _) (fun q2 => ?_)
  refine g_istore_n d_M_way_16 (by decide) ?_
  refine g_iload_n d_M_way_17 rfl ?_
  refine m_if_lt d_M_way_18 (fun hJ7 => g_iload_n d_M_way_34 rfl (m_if_lt d_M_way_35 (fun hJ3 => g_iconst d_M_way_42 hJ3) (fun hJ3 => g_iconst d_M_way_38 (g_goto d_M_way_39 hJ3)) hJ7)) (fun hJ7 => g_iload_n d_M_way_21 rfl (m_if_lt d_M_way_22 (fun hJ6 => g_iconst d_M_way_30 (g_goto d_M_way_31 hJ6)) (fun hJ6 => g_iload_n d_M_way_25 rfl (g_iload_n d_M_way_26 rfl (m_icmp_gt d_M_way_27 (fun hJ5 => g_iload_n d_M_way_34 rfl (m_if_lt d_M_way_35 (fun hJ4 => g_iconst d_M_way_42 hJ4) (fun hJ4 => g_iconst d_M_way_38 (g_goto d_M_way_39 hJ4)) hJ5)) (fun hJ5 => g_iconst d_M_way_30 (g_goto d_M_way_31 hJ5)) hJ6))) hJ7)) ?_
  exact g_ireturn d_M_way_43 rfl rfl rfl
def f_M_odds_L33 : Nat → Int32 → Int32 → Int32 → St → Option (Int32 × St)
  | 0, _, _, _, _ => none
  | n + 1, y1, y2, y3, S => (if y1 ≤ y3 then some (y2, S) else ((f_M_draw S).bind fun q6 => ((f_M_gripOf (q6.1 - q6.1 / 100 * 100) (q6.2 47 3) q6.2).bind fun q7 => ((f_M_weight q7.2).bind fun q8 => let x10 : Int32 := (if q7.1 < q8.1 then 0 else 1); f_M_odds_L33   n y1 (y2 + x10) (y3 + 1) q8.2))))
set_option maxRecDepth 4000 in
theorem w_M_odds_L33 {X : xC} {d : Nat}   : ∀ (n : Nat) (y1 : Int32) (y2 : Int32) (y3 : Int32) (S : St), SemG eI X k_M_odds (d + 3) 33 [some (.ref (xB X + 46)), some (.int y1), some (.int y2), some (.int y3)] [] S (f_M_odds_L33   n y1 y2 y3 S) := by
  intro n
  induction n with
  | zero => intro _ _ _ _; exact g_none
  | succ n ih =>
    intro y1 y2 y3 S
    unfold f_M_odds_L33
    refine g_iload_n d_M_odds_33 rfl ?_
    refine g_iload_n d_M_odds_34 rfl ?_
    refine s_icmp_ge d_M_odds_35 (fun u5 => ?_) (fun u5 => ?_)
    · refine g_iload_n d_M_odds_76 rfl ?_
      exact g_ireturn d_M_odds_77 rfl rfl rfl
    · refine g_iload_n d_M_odds_38 rfl ?_
      refine g_aload_n d_M_odds_39 rfl ?_
      refine g_aload_n d_M_odds_40 rfl ?_
      refine g_callV0I d_M_odds_41 ml_M_86 vk_M_draw rfl ⟨_, rfl, rfl⟩ (Nat.le_of_ble_eq_true rfl) (w_M_draw (X := X) (d := d + 2) _) (fun q6 => ?_)
      refine g_bipush d_M_odds_44 ?_
      refine g_irem d_M_odds_46 (by decide) ?_
      refine g_aload_n d_M_odds_47 rfl ?_
      refine g_getR d_M_odds_48 fl_M_7 rfl rfl ?_
      refine g_iconst d_M_odds_51 ?_
      refine g_ild d_M_odds_52 rfl il_3_92.1 il_3_92.2 ?_
      refine g_callV2I d_M_odds_53 ml_M_57 vk_M_gripOf rfl ⟨_, rfl, rfl⟩ rfl rfl (Nat.le_of_ble_eq_true rfl) (w_M_gripOf (X := X) (d := d + 1) _ _ _) (fun q7 => ?_)
      refine g_aload_n d_M_odds_56 rfl ?_
      refine g_callV0I d_M_odds_57 ml_M_78 vk_M_weight rfl ⟨_, rfl, rfl⟩ (Nat.le_of_ble_eq_true rfl) (w_M_weight (X := X) (d := d + 2) _) (fun q8 => ?_)
      refine m_icmp_lt d_M_odds_60 (fun hJ9 => g_iconst d_M_odds_67 hJ9) (fun hJ9 => g_iconst d_M_odds_63 (g_goto d_M_odds_64 hJ9)) ?_
      refine g_iadd d_M_odds_68 ?_
      refine g_istore_n d_M_odds_69 (by decide) ?_
      refine g_iinc d_M_odds_70 (by decide) rfl ?_
      refine g_goto d_M_odds_73 ?_
      exact ih _ _ _ _
def f_M_odds (p1 : Int32) (S : St) : Option (Int32 × St) := ((f_M_in p1 1 20 S).bind fun q1 => (if (bI q1.1) = 0 then ((f_M_finding 0 q1.2).bind fun q12 => some (q12.1, q12.2)) else ((f_M_isOut q1.2).bind fun q3 => (if (bI q3.1) = 0 then f_M_odds_L33   200 p1 0 0 q3.2 else ((f_M_finding 4 q3.2).bind fun q11 => some (q11.1, q11.2))))))
set_option maxRecDepth 4000 in
theorem w_M_odds {X : xC} {d : Nat}  (p1 : Int32) (S : St) : SemG eI X k_M_odds (d + 3) 0 [some (.ref (xB X + 46)), some (.int p1), none, none] [] S (f_M_odds  p1 S) := by
  unfold f_M_odds
  refine g_iload_n d_M_odds_0 rfl ?_
  refine g_iconst d_M_odds_1 ?_
  refine g_bipush d_M_odds_2 ?_
  refine g_callS3B d_M_odds_4 ml_M_45 sk_M_in rfl rfl rfl (Nat.le_of_ble_eq_true rfl) (w_M_in (X := X) (d := d + 2) _ _ _ _) (fun q1 => ?_)
  refine s_if_ne d_M_odds_7 (fun u2 => ?_) (fun u2 => ?_)
  · refine g_aload_n d_M_odds_16 rfl ?_
    refine g_callV0B d_M_odds_17 ml_M_81 vk_M_isOut rfl ⟨_, rfl, rfl⟩ (Nat.le_of_ble_eq_true rfl) (w_M_isOut (X := X) (d := d) _) (fun q3 => ?_)
    refine s_if_eq d_M_odds_20 (fun u4 => ?_) (fun u4 => ?_)
    · refine g_iconst d_M_odds_29 ?_
      refine g_istore_n d_M_odds_30 (by decide) ?_
      refine g_iconst d_M_odds_31 ?_
      refine g_istore_n d_M_odds_32 (by decide) ?_
      exact w_M_odds_L33 (X := X) (d := d) 200 _ _ _ _
    · refine g_aload_n d_M_odds_23 rfl ?_
      refine g_iconst d_M_odds_24 ?_
      refine g_callV1I d_M_odds_25 ml_M_61 vk_M_finding rfl ⟨_, rfl, rfl⟩ rfl (Nat.le_of_ble_eq_true rfl) (w_M_finding (X := X) (d := d + 2) _ _) (fun q11 => ?_)
      exact g_ireturn d_M_odds_28 rfl rfl rfl
  · refine g_aload_n d_M_odds_10 rfl ?_
    refine g_iconst d_M_odds_11 ?_
    refine g_callV1I d_M_odds_12 ml_M_61 vk_M_finding rfl ⟨_, rfl, rfl⟩ rfl (Nat.le_of_ble_eq_true rfl) (w_M_finding (X := X) (d := d + 2) _ _) (fun q12 => ?_)
    exact g_ireturn d_M_odds_15 rfl rfl rfl
def f_M_seed (p1 : Int32) (S : St) : Option (Int32 × St) := let S1 := put S 47 10 p1; some ((S 47 10), S1)
set_option maxRecDepth 4000 in
theorem w_M_seed {X : xC} {d : Nat}  (p1 : Int32) (S : St) : SemG eI X k_M_seed (d) 0 [some (.ref (xB X + 46)), some (.int p1), none] [] S (f_M_seed  p1 S) := by
  unfold f_M_seed
  refine g_aload_n d_M_seed_0 rfl ?_
  refine g_getR d_M_seed_1 fl_M_7 rfl rfl ?_
  refine g_bipush d_M_seed_4 ?_
  refine g_ild d_M_seed_6 rfl il_10_92.1 il_10_92.2 ?_
  refine g_istore_n d_M_seed_7 (by decide) ?_
  refine g_aload_n d_M_seed_8 rfl ?_
  refine g_getR d_M_seed_9 fl_M_7 rfl rfl ?_
  refine g_bipush d_M_seed_12 ?_
  refine g_iload_n d_M_seed_14 rfl ?_
  refine g_ist d_M_seed_15 rfl il_10_92.1 il_10_92.2 ?_
  refine g_iload_n d_M_seed_16 rfl ?_
  exact g_ireturn d_M_seed_17 rfl rfl rfl
def f_M_hold (p1 p2 : Int32) (S : St) : Option (Int32 × St) := ((f_M_in p1 0 9 S).bind fun q1 => (if (bI q1.1) = 0 then ((f_M_finding 0 q1.2).bind fun q3 => some (q3.1, q3.2)) else (if p2 = (-1) then (if inb (62 + p1) 92 = true then let S6 := put q1.2 47 ((62 + p1)).toNatClampNeg p2; some (1, S6) else none) else ((f_M_isSlot p2 q1.2).bind fun q7 => (if (bI q7.1) = 0 then ((f_M_finding 0 q7.2).bind fun q11 => some (q11.1, q11.2)) else (if inb (62 + p1) 92 = true then let S10 := put q7.2 47 ((62 + p1)).toNatClampNeg p2; some (1, S10) else none))))))
set_option maxRecDepth 4000 in
theorem w_M_hold {X : xC} {d : Nat}  (p1 p2 : Int32) (S : St) : SemG eI X k_M_hold (d + 2) 0 [some (.ref (xB X + 46)), some (.int p1), some (.int p2)] [] S (f_M_hold  p1 p2 S) := by
  unfold f_M_hold
  refine g_iload_n d_M_hold_0 rfl ?_
  refine g_iconst d_M_hold_1 ?_
  refine g_bipush d_M_hold_2 ?_
  refine g_callS3B d_M_hold_4 ml_M_45 sk_M_in rfl rfl rfl (Nat.le_of_ble_eq_true rfl) (w_M_in (X := X) (d := d + 1) _ _ _ _) (fun q1 => ?_)
  refine s_if_eq d_M_hold_7 (fun u2 => ?_) (fun u2 => ?_)
  · refine g_aload_n d_M_hold_22 rfl ?_
    refine g_iconst d_M_hold_23 ?_
    refine g_callV1I d_M_hold_24 ml_M_61 vk_M_finding rfl ⟨_, rfl, rfl⟩ rfl (Nat.le_of_ble_eq_true rfl) (w_M_finding (X := X) (d := d + 1) _ _) (fun q3 => ?_)
    exact g_ireturn d_M_hold_27 rfl rfl rfl
  · refine g_iload_n d_M_hold_10 rfl ?_
    refine g_iconst d_M_hold_11 ?_
    refine s_icmp_eq d_M_hold_12 (fun u4 => ?_) (fun u4 => ?_)
    · refine g_aload_n d_M_hold_28 rfl ?_
      refine g_getR d_M_hold_29 fl_M_7 rfl rfl ?_
      refine g_bipush d_M_hold_32 ?_
      refine g_iload_n d_M_hold_34 rfl ?_
      refine g_iadd d_M_hold_35 ?_
      refine g_iload_n d_M_hold_36 rfl ?_
      refine g_guard (fun hb5 => ?_)
      refine g_ist d_M_hold_37 rfl hb5 rfl ?_
      refine g_iconst d_M_hold_38 ?_
      exact g_ireturn d_M_hold_39 rfl rfl rfl
    · refine g_iload_n d_M_hold_15 rfl ?_
      refine g_callS1B d_M_hold_16 ml_M_108 sk_M_isSlot rfl (Nat.le_of_ble_eq_true rfl) (w_M_isSlot (X := X) (d := d) _ _) (fun q7 => ?_)
      refine s_if_ne d_M_hold_19 (fun u8 => ?_) (fun u8 => ?_)
      · refine g_aload_n d_M_hold_28 rfl ?_
        refine g_getR d_M_hold_29 fl_M_7 rfl rfl ?_
        refine g_bipush d_M_hold_32 ?_
        refine g_iload_n d_M_hold_34 rfl ?_
        refine g_iadd d_M_hold_35 ?_
        refine g_iload_n d_M_hold_36 rfl ?_
        refine g_guard (fun hb9 => ?_)
        refine g_ist d_M_hold_37 rfl hb9 rfl ?_
        refine g_iconst d_M_hold_38 ?_
        exact g_ireturn d_M_hold_39 rfl rfl rfl
      · refine g_aload_n d_M_hold_22 rfl ?_
        refine g_iconst d_M_hold_23 ?_
        refine g_callV1I d_M_hold_24 ml_M_61 vk_M_finding rfl ⟨_, rfl, rfl⟩ rfl (Nat.le_of_ble_eq_true rfl) (w_M_finding (X := X) (d := d + 1) _ _) (fun q11 => ?_)
        exact g_ireturn d_M_hold_27 rfl rfl rfl
def f_M_isUnder (p1 p2 : Int32) (S : St) : Option (Bool × St) := let x10 : Int32 := (if p2 = 0 then 1 else (if p1 = p2 then 1 else (if p2 = 1 then (if p1 = 2 then 1 else (if p1 = 5 then 1 else (if p2 = 2 then (if p1 = 5 then 1 else 0) else 0))) else (if p2 = 2 then (if p1 = 5 then 1 else 0) else 0)))); some ((if p2 = 0 then true else (if p1 = p2 then true else (if p2 = 1 then (if p1 = 2 then true else (if p1 = 5 then true else (if p2 = 2 then (if p1 = 5 then true else false) else false))) else (if p2 = 2 then (if p1 = 5 then true else false) else false)))), S)
set_option maxRecDepth 4000 in
theorem w_M_isUnder {X : xC} {d : Nat}  (p1 p2 : Int32) (S : St) : SemG eB X k_M_isUnder (d) 0 [some (.int p1), some (.int p2)] [] S (f_M_isUnder  p1 p2 S) := by
  unfold f_M_isUnder
  refine g_iload_n d_M_isUnder_0 rfl ?_
  refine m_if_eq d_M_isUnder_1 (fun hJ9 => g_iconst d_M_isUnder_34 (g_goto d_M_isUnder_35 hJ9)) (fun hJ9 => g_iload_n d_M_isUnder_4 rfl (g_iload_n d_M_isUnder_5 rfl (m_icmp_eq d_M_isUnder_6 (fun hJ8 => g_iconst d_M_isUnder_34 (g_goto d_M_isUnder_35 hJ8)) (fun hJ8 => g_iload_n d_M_isUnder_9 rfl (g_iconst d_M_isUnder_10 (m_icmp_ne d_M_isUnder_11 (fun hJ7 => g_iload_n d_M_isUnder_24 rfl (g_iconst d_M_isUnder_25 (m_icmp_ne d_M_isUnder_26 (fun hJ2 => g_iconst d_M_isUnder_38 hJ2) (fun hJ2 => g_iload_n d_M_isUnder_29 rfl (g_iconst d_M_isUnder_30 (m_icmp_ne d_M_isUnder_31 (fun hJ1 => g_iconst d_M_isUnder_38 hJ1) (fun hJ1 => g_iconst d_M_isUnder_34 (g_goto d_M_isUnder_35 hJ1)) hJ2))) hJ7))) (fun hJ7 => g_iload_n d_M_isUnder_14 rfl (g_iconst d_M_isUnder_15 (m_icmp_eq d_M_isUnder_16 (fun hJ6 => g_iconst d_M_isUnder_34 (g_goto d_M_isUnder_35 hJ6)) (fun hJ6 => g_iload_n d_M_isUnder_19 rfl (g_iconst d_M_isUnder_20 (m_icmp_eq d_M_isUnder_21 (fun hJ5 => g_iconst d_M_isUnder_34 (g_goto d_M_isUnder_35 hJ5)) (fun hJ5 => g_iload_n d_M_isUnder_24 rfl (g_iconst d_M_isUnder_25 (m_icmp_ne d_M_isUnder_26 (fun hJ4 => g_iconst d_M_isUnder_38 hJ4) (fun hJ4 => g_iload_n d_M_isUnder_29 rfl (g_iconst d_M_isUnder_30 (m_icmp_ne d_M_isUnder_31 (fun hJ3 => g_iconst d_M_isUnder_38 hJ3) (fun hJ3 => g_iconst d_M_isUnder_34 (g_goto d_M_isUnder_35 hJ3)) hJ4))) hJ5))) hJ6))) hJ7))) hJ8))) hJ9))) ?_
  refine g_zreturn d_M_isUnder_39 rfl ?_ rfl
  (repeat' split) <;> rfl
def f_M_as (p1 p2 : Int32) (S : St) : Option (Int32 × St) := ((f_M_in p1 0 9 S).bind fun q1 => (if (bI q1.1) = 0 then ((f_M_finding 0 q1.2).bind fun q3 => some (q3.1, q3.2)) else ((f_M_isKind p2 q1.2).bind fun q4 => (if (bI q4.1) = 0 then ((f_M_finding 0 q4.2).bind fun q16 => some (q16.1, q16.2)) else (if inb (62 + p1) 92 = true then let x7 : Int32 := (q4.2 47 ((62 + p1)).toNatClampNeg); (if x7 = (-1) then ((f_M_finding 5 q4.2).bind fun q9 => some (q9.1, q9.2)) else (if inb (52 + x7) 92 = true then (if (q4.2 47 ((52 + x7)).toNatClampNeg) = (-1) then ((f_M_finding 5 q4.2).bind fun q15 => some (q15.1, q15.2)) else ((f_M_isUnder (q4.2 47 ((52 + x7)).toNatClampNeg) p2 q4.2).bind fun q12 => (if (bI q12.1) = 0 then ((f_M_finding 2 q12.2).bind fun q14 => some (q14.1, q14.2)) else some (x7, q12.2)))) else none)) else none)))))
set_option maxRecDepth 4000 in
theorem w_M_as {X : xC} {d : Nat}  (p1 p2 : Int32) (S : St) : SemG eI X k_M_as (d + 2) 0 [some (.ref (xB X + 46)), some (.int p1), some (.int p2), none] [] S (f_M_as  p1 p2 S) := by
  unfold f_M_as
  refine g_iload_n d_M_as_0 rfl ?_
  refine g_iconst d_M_as_1 ?_
  refine g_bipush d_M_as_2 ?_
  refine g_callS3B d_M_as_4 ml_M_45 sk_M_in rfl rfl rfl (Nat.le_of_ble_eq_true rfl) (w_M_in (X := X) (d := d + 1) _ _ _ _) (fun q1 => ?_)
  refine s_if_eq d_M_as_7 (fun u2 => ?_) (fun u2 => ?_)
  · refine g_aload_n d_M_as_17 rfl ?_
    refine g_iconst d_M_as_18 ?_
    refine g_callV1I d_M_as_19 ml_M_61 vk_M_finding rfl ⟨_, rfl, rfl⟩ rfl (Nat.le_of_ble_eq_true rfl) (w_M_finding (X := X) (d := d + 1) _ _) (fun q3 => ?_)
    exact g_ireturn d_M_as_22 rfl rfl rfl
  · refine g_iload_n d_M_as_10 rfl ?_
    refine g_callS1B d_M_as_11 ml_M_111 sk_M_isKind rfl (Nat.le_of_ble_eq_true rfl) (w_M_isKind (X := X) (d := d) _ _) (fun q4 => ?_)
    refine s_if_ne d_M_as_14 (fun u5 => ?_) (fun u5 => ?_)
    · refine g_aload_n d_M_as_23 rfl ?_
      refine g_getR d_M_as_24 fl_M_7 rfl rfl ?_
      refine g_bipush d_M_as_27 ?_
      refine g_iload_n d_M_as_29 rfl ?_
      refine g_iadd d_M_as_30 ?_
      refine g_guard (fun hb6 => ?_)
      refine g_ild d_M_as_31 rfl hb6 rfl ?_
      refine g_istore_n d_M_as_32 (by decide) ?_
      refine g_iload_n d_M_as_33 rfl ?_
      refine g_iconst d_M_as_34 ?_
      refine s_icmp_eq d_M_as_35 (fun u8 => ?_) (fun u8 => ?_)
      · refine g_aload_n d_M_as_51 rfl ?_
        refine g_iconst d_M_as_52 ?_
        refine g_callV1I d_M_as_53 ml_M_61 vk_M_finding rfl ⟨_, rfl, rfl⟩ rfl (Nat.le_of_ble_eq_true rfl) (w_M_finding (X := X) (d := d + 1) _ _) (fun q9 => ?_)
        exact g_ireturn d_M_as_56 rfl rfl rfl
      · refine g_aload_n d_M_as_38 rfl ?_
        refine g_getR d_M_as_39 fl_M_7 rfl rfl ?_
        refine g_bipush d_M_as_42 ?_
        refine g_iload_n d_M_as_44 rfl ?_
        refine g_iadd d_M_as_45 ?_
        refine g_guard (fun hb10 => ?_)
        refine g_ild d_M_as_46 rfl hb10 rfl ?_
        refine g_iconst d_M_as_47 ?_
        refine s_icmp_ne d_M_as_48 (fun u11 => ?_) (fun u11 => ?_)
        · refine g_aload_n d_M_as_57 rfl ?_
          refine g_getR d_M_as_58 fl_M_7 rfl rfl ?_
          refine g_bipush d_M_as_61 ?_
          refine g_iload_n d_M_as_63 rfl ?_
          refine g_iadd d_M_as_64 ?_
          refine g_ild d_M_as_65 rfl hb10 rfl ?_
          refine g_iload_n d_M_as_66 rfl ?_
          refine g_callS2B d_M_as_67 ml_M_227 sk_M_isUnder rfl rfl (Nat.le_of_ble_eq_true rfl) (w_M_isUnder (X := X) (d := d + 1) _ _ _) (fun q12 => ?_)
          refine s_if_eq d_M_as_70 (fun u13 => ?_) (fun u13 => ?_)
          · refine g_aload_n d_M_as_77 rfl ?_
            refine g_iconst d_M_as_78 ?_
            refine g_callV1I d_M_as_79 ml_M_61 vk_M_finding rfl ⟨_, rfl, rfl⟩ rfl (Nat.le_of_ble_eq_true rfl) (w_M_finding (X := X) (d := d + 1) _ _) (fun q14 => ?_)
            exact g_ireturn d_M_as_82 rfl rfl rfl
          · refine g_iload_n d_M_as_73 rfl ?_
            refine g_goto d_M_as_74 ?_
            exact g_ireturn d_M_as_82 rfl rfl rfl
        · refine g_aload_n d_M_as_51 rfl ?_
          refine g_iconst d_M_as_52 ?_
          refine g_callV1I d_M_as_53 ml_M_61 vk_M_finding rfl ⟨_, rfl, rfl⟩ rfl (Nat.le_of_ble_eq_true rfl) (w_M_finding (X := X) (d := d + 1) _ _) (fun q15 => ?_)
          exact g_ireturn d_M_as_56 rfl rfl rfl
    · refine g_aload_n d_M_as_17 rfl ?_
      refine g_iconst d_M_as_18 ?_
      refine g_callV1I d_M_as_19 ml_M_61 vk_M_finding rfl ⟨_, rfl, rfl⟩ rfl (Nat.le_of_ble_eq_true rfl) (w_M_finding (X := X) (d := d + 1) _ _) (fun q16 => ?_)
      exact g_ireturn d_M_as_22 rfl rfl rfl
def f_M_isSheet (p1 : Int32) (S : St) : Option (Bool × St) := ((f_M_in p1 0 3 S).bind fun q1 => some (q1.1, q1.2))
set_option maxRecDepth 4000 in
theorem w_M_isSheet {X : xC} {d : Nat}  (p1 : Int32) (S : St) : SemG eB X k_M_isSheet (d + 1) 0 [some (.int p1)] [] S (f_M_isSheet  p1 S) := by
  unfold f_M_isSheet
  refine g_iload_n d_M_isSheet_0 rfl ?_
  refine g_iconst d_M_isSheet_1 ?_
  refine g_iconst d_M_isSheet_2 ?_
  refine g_callS3B d_M_isSheet_3 ml_M_45 sk_M_in rfl rfl rfl (Nat.le_of_ble_eq_true rfl) (w_M_in (X := X) (d := d) _ _ _ _) (fun q1 => ?_)
  refine g_zreturn d_M_isSheet_6 rfl ?_ rfl
  rfl
def f_M_sheet_L83 : Nat → Int32 → Int32 → Int32 → Int32 → St → Option (Int32 × St)
  | 0, _, _, _, _, _ => none
  | n + 1, y1, y2, y3, y4, S => (if 40 ≤ y4 then (if inb y1 4 = true then some ((S 54 (y1).toNatClampNeg), S) else none) else (if inb ((40 * y1) + y4) 160 = true then let S15 := put S 55 (((40 * y1) + y4)).toNatClampNeg 0; f_M_sheet_L83   n y1 y2 y3 (y4 + 1) S15 else none))
set_option maxRecDepth 4000 in
theorem w_M_sheet_L83 {X : xC} {d : Nat}   : ∀ (n : Nat) (y1 : Int32) (y2 : Int32) (y3 : Int32) (y4 : Int32) (S : St), SemG eI X k_M_sheet (d + 2) 83 [some (.ref (xB X + 46)), some (.int y1), some (.int y2), some (.int y3), some (.int y4)] [] S (f_M_sheet_L83   n y1 y2 y3 y4 S) := by
  intro n
  induction n with
  | zero => intro _ _ _ _ _; exact g_none
  | succ n ih =>
    intro y1 y2 y3 y4 S
    unfold f_M_sheet_L83
    refine g_iload d_M_sheet_83 rfl ?_
    refine g_bipush d_M_sheet_85 ?_
    refine s_icmp_ge d_M_sheet_87 (fun u12 => ?_) (fun u12 => ?_)
    · refine g_aload_n d_M_sheet_109 rfl ?_
      refine g_getR d_M_sheet_110 fl_M_31 rfl rfl ?_
      refine g_iload_n d_M_sheet_113 rfl ?_
      refine g_guard (fun hb13 => ?_)
      refine g_ild d_M_sheet_114 rfl hb13 rfl ?_
      exact g_ireturn d_M_sheet_115 rfl rfl rfl
    · refine g_aload_n d_M_sheet_90 rfl ?_
      refine g_getR d_M_sheet_91 fl_M_34 rfl rfl ?_
      refine g_bipush d_M_sheet_94 ?_
      refine g_iload_n d_M_sheet_96 rfl ?_
      refine g_imul d_M_sheet_97 ?_
      refine g_iload d_M_sheet_98 rfl ?_
      refine g_iadd d_M_sheet_100 ?_
      refine g_iconst d_M_sheet_101 ?_
      refine g_guard (fun hb14 => ?_)
      refine g_ist d_M_sheet_102 rfl hb14 rfl ?_
      refine g_iinc d_M_sheet_103 (by decide) rfl ?_
      refine g_goto d_M_sheet_106 ?_
      exact ih _ _ _ _ _
def f_M_sheet (p1 p2 p3 : Int32) (S : St) : Option (Int32 × St) := ((f_M_isSheet p1 S).bind fun q1 => (if (bI q1.1) = 0 then ((f_M_finding 0 q1.2).bind fun q3 => some (q3.1, q3.2)) else (if p2 = 0 then (if 0 ≤ p3 then (if p3 ≤ 40 then (if inb p1 4 = true then let S8 := put q1.2 53 (p1).toNatClampNeg p2; let x10 : Int32 := (if p2 = 0 then 0 else p3); let S11 := put S8 54 (p1).toNatClampNeg x10; f_M_sheet_L83   200 p1 p2 p3 0 S11 else none) else ((f_M_finding 0 q1.2).bind fun q16 => some (q16.1, q16.2))) else ((f_M_finding 6 q1.2).bind fun q17 => some (q17.1, q17.2))) else (if p2 = 8 then (if 0 ≤ p3 then (if p3 ≤ 40 then (if inb p1 4 = true then let S22 := put q1.2 53 (p1).toNatClampNeg p2; let x24 : Int32 := (if p2 = 0 then 0 else p3); let S25 := put S22 54 (p1).toNatClampNeg x24; f_M_sheet_L83   200 p1 p2 p3 0 S25 else none) else ((f_M_finding 0 q1.2).bind fun q26 => some (q26.1, q26.2))) else ((f_M_finding 6 q1.2).bind fun q27 => some (q27.1, q27.2))) else (if p2 = 16 then (if 0 ≤ p3 then (if p3 ≤ 40 then (if inb p1 4 = true then let S32 := put q1.2 53 (p1).toNatClampNeg p2; let x34 : Int32 := (if p2 = 0 then 0 else p3); let S35 := put S32 54 (p1).toNatClampNeg x34; f_M_sheet_L83   200 p1 p2 p3 0 S35 else none) else ((f_M_finding 0 q1.2).bind fun q36 => some (q36.1, q36.2))) else ((f_M_finding 6 q1.2).bind fun q37 => some (q37.1, q37.2))) else (if p2 = 32 then (if 0 ≤ p3 then (if p3 ≤ 40 then (if inb p1 4 = true then let S42 := put q1.2 53 (p1).toNatClampNeg p2; let x44 : Int32 := (if p2 = 0 then 0 else p3); let S45 := put S42 54 (p1).toNatClampNeg x44; f_M_sheet_L83   200 p1 p2 p3 0 S45 else none) else ((f_M_finding 0 q1.2).bind fun q46 => some (q46.1, q46.2))) else ((f_M_finding 6 q1.2).bind fun q47 => some (q47.1, q47.2))) else ((f_M_finding 0 q1.2).bind fun q48 => some (q48.1, q48.2))))))))
set_option maxRecDepth 4000 in
theorem w_M_sheet {X : xC} {d : Nat}  (p1 p2 p3 : Int32) (S : St) : SemG eI X k_M_sheet (d + 2) 0 [some (.ref (xB X + 46)), some (.int p1), some (.int p2), some (.int p3), none] [] S (f_M_sheet  p1 p2 p3 S) := by
  unfold f_M_sheet
  refine g_iload_n d_M_sheet_0 rfl ?_
  refine g_callS1B d_M_sheet_1 ml_M_230 sk_M_isSheet rfl (Nat.le_of_ble_eq_true rfl) (w_M_isSheet (X := X) (d := d) _ _) (fun q1 => ?_)
  refine s_if_eq d_M_sheet_4 (fun u2 => ?_) (fun u2 => ?_)
  · refine g_aload_n d_M_sheet_29 rfl ?_
    refine g_iconst d_M_sheet_30 ?_
    refine g_callV1I d_M_sheet_31 ml_M_61 vk_M_finding rfl ⟨_, rfl, rfl⟩ rfl (Nat.le_of_ble_eq_true rfl) (w_M_finding (X := X) (d := d + 1) _ _) (fun q3 => ?_)
    exact g_ireturn d_M_sheet_34 rfl rfl rfl
  · refine g_iload_n d_M_sheet_7 rfl ?_
    refine s_if_eq d_M_sheet_8 (fun u4 => ?_) (fun u4 => ?_)
    · refine g_iload_n d_M_sheet_35 rfl ?_
      refine s_if_ge d_M_sheet_36 (fun u5 => ?_) (fun u5 => ?_)
      · refine g_iload_n d_M_sheet_46 rfl ?_
        refine g_bipush d_M_sheet_47 ?_
        refine s_icmp_le d_M_sheet_49 (fun u6 => ?_) (fun u6 => ?_)
        · refine g_aload_n d_M_sheet_58 rfl ?_
          refine g_getR d_M_sheet_59 fl_M_28 rfl rfl ?_
          refine g_iload_n d_M_sheet_62 rfl ?_
          refine g_iload_n d_M_sheet_63 rfl ?_
          refine g_guard (fun hb7 => ?_)
          refine g_ist d_M_sheet_64 rfl hb7 rfl ?_
          refine g_aload_n d_M_sheet_65 rfl ?_
          refine g_getR d_M_sheet_66 fl_M_31 rfl rfl ?_
          refine g_iload_n d_M_sheet_69 rfl ?_
          refine g_iload_n d_M_sheet_70 rfl ?_
          refine m_if_ne d_M_sheet_71 (fun hJ9 => g_iload_n d_M_sheet_78 rfl hJ9) (fun hJ9 => g_iconst d_M_sheet_74 (g_goto d_M_sheet_75 hJ9)) ?_
          refine g_ist d_M_sheet_79 rfl hb7 rfl ?_
          refine g_iconst d_M_sheet_80 ?_
          refine g_istore d_M_sheet_81 (by decide) ?_
          exact w_M_sheet_L83 (X := X) (d := d) 200 _ _ _ _ _
        · refine g_aload_n d_M_sheet_52 rfl ?_
          refine g_iconst d_M_sheet_53 ?_
          refine g_callV1I d_M_sheet_54 ml_M_61 vk_M_finding rfl ⟨_, rfl, rfl⟩ rfl (Nat.le_of_ble_eq_true rfl) (w_M_finding (X := X) (d := d + 1) _ _) (fun q16 => ?_)
          exact g_ireturn d_M_sheet_57 rfl rfl rfl
      · refine g_aload_n d_M_sheet_39 rfl ?_
        refine g_bipush d_M_sheet_40 ?_
        refine g_callV1I d_M_sheet_42 ml_M_61 vk_M_finding rfl ⟨_, rfl, rfl⟩ rfl (Nat.le_of_ble_eq_true rfl) (w_M_finding (X := X) (d := d + 1) _ _) (fun q17 => ?_)
        exact g_ireturn d_M_sheet_45 rfl rfl rfl
    · refine g_iload_n d_M_sheet_11 rfl ?_
      refine g_bipush d_M_sheet_12 ?_
      refine s_icmp_eq d_M_sheet_14 (fun u18 => ?_) (fun u18 => ?_)
      · refine g_iload_n d_M_sheet_35 rfl ?_
        refine s_if_ge d_M_sheet_36 (fun u19 => ?_) (fun u19 => ?_)
        · refine g_iload_n d_M_sheet_46 rfl ?_
          refine g_bipush d_M_sheet_47 ?_
          refine s_icmp_le d_M_sheet_49 (fun u20 => ?_) (fun u20 => ?_)
          · refine g_aload_n d_M_sheet_58 rfl ?_
            refine g_getR d_M_sheet_59 fl_M_28 rfl rfl ?_
            refine g_iload_n d_M_sheet_62 rfl ?_
            refine g_iload_n d_M_sheet_63 rfl ?_
            refine g_guard (fun hb21 => ?_)
            refine g_ist d_M_sheet_64 rfl hb21 rfl ?_
            refine g_aload_n d_M_sheet_65 rfl ?_
            refine g_getR d_M_sheet_66 fl_M_31 rfl rfl ?_
            refine g_iload_n d_M_sheet_69 rfl ?_
            refine g_iload_n d_M_sheet_70 rfl ?_
            refine m_if_ne d_M_sheet_71 (fun hJ23 => g_iload_n d_M_sheet_78 rfl hJ23) (fun hJ23 => g_iconst d_M_sheet_74 (g_goto d_M_sheet_75 hJ23)) ?_
            refine g_ist d_M_sheet_79 rfl hb21 rfl ?_
            refine g_iconst d_M_sheet_80 ?_
            refine g_istore d_M_sheet_81 (by decide) ?_
            exact w_M_sheet_L83 (X := X) (d := d) 200 _ _ _ _ _
          · refine g_aload_n d_M_sheet_52 rfl ?_
            refine g_iconst d_M_sheet_53 ?_
            refine g_callV1I d_M_sheet_54 ml_M_61 vk_M_finding rfl ⟨_, rfl, rfl⟩ rfl (Nat.le_of_ble_eq_true rfl) (w_M_finding (X := X) (d := d + 1) _ _) (fun q26 => ?_)
            exact g_ireturn d_M_sheet_57 rfl rfl rfl
        · refine g_aload_n d_M_sheet_39 rfl ?_
          refine g_bipush d_M_sheet_40 ?_
          refine g_callV1I d_M_sheet_42 ml_M_61 vk_M_finding rfl ⟨_, rfl, rfl⟩ rfl (Nat.le_of_ble_eq_true rfl) (w_M_finding (X := X) (d := d + 1) _ _) (fun q27 => ?_)
          exact g_ireturn d_M_sheet_45 rfl rfl rfl
      · refine g_iload_n d_M_sheet_17 rfl ?_
        refine g_bipush d_M_sheet_18 ?_
        refine s_icmp_eq d_M_sheet_20 (fun u28 => ?_) (fun u28 => ?_)
        · refine g_iload_n d_M_sheet_35 rfl ?_
          refine s_if_ge d_M_sheet_36 (fun u29 => ?_) (fun u29 => ?_)
          · refine g_iload_n d_M_sheet_46 rfl ?_
            refine g_bipush d_M_sheet_47 ?_
            refine s_icmp_le d_M_sheet_49 (fun u30 => ?_) (fun u30 => ?_)
            · refine g_aload_n d_M_sheet_58 rfl ?_
              refine g_getR d_M_sheet_59 fl_M_28 rfl rfl ?_
              refine g_iload_n d_M_sheet_62 rfl ?_
              refine g_iload_n d_M_sheet_63 rfl ?_
              refine g_guard (fun hb31 => ?_)
              refine g_ist d_M_sheet_64 rfl hb31 rfl ?_
              refine g_aload_n d_M_sheet_65 rfl ?_
              refine g_getR d_M_sheet_66 fl_M_31 rfl rfl ?_
              refine g_iload_n d_M_sheet_69 rfl ?_
              refine g_iload_n d_M_sheet_70 rfl ?_
              refine m_if_ne d_M_sheet_71 (fun hJ33 => g_iload_n d_M_sheet_78 rfl hJ33) (fun hJ33 => g_iconst d_M_sheet_74 (g_goto d_M_sheet_75 hJ33)) ?_
              refine g_ist d_M_sheet_79 rfl hb31 rfl ?_
              refine g_iconst d_M_sheet_80 ?_
              refine g_istore d_M_sheet_81 (by decide) ?_
              exact w_M_sheet_L83 (X := X) (d := d) 200 _ _ _ _ _
            · refine g_aload_n d_M_sheet_52 rfl ?_
              refine g_iconst d_M_sheet_53 ?_
              refine g_callV1I d_M_sheet_54 ml_M_61 vk_M_finding rfl ⟨_, rfl, rfl⟩ rfl (Nat.le_of_ble_eq_true rfl) (w_M_finding (X := X) (d := d + 1) _ _) (fun q36 => ?_)
              exact g_ireturn d_M_sheet_57 rfl rfl rfl
          · refine g_aload_n d_M_sheet_39 rfl ?_
            refine g_bipush d_M_sheet_40 ?_
            refine g_callV1I d_M_sheet_42 ml_M_61 vk_M_finding rfl ⟨_, rfl, rfl⟩ rfl (Nat.le_of_ble_eq_true rfl) (w_M_finding (X := X) (d := d + 1) _ _) (fun q37 => ?_)
            exact g_ireturn d_M_sheet_45 rfl rfl rfl
        · refine g_iload_n d_M_sheet_23 rfl ?_
          refine g_bipush d_M_sheet_24 ?_
          refine s_icmp_eq d_M_sheet_26 (fun u38 => ?_) (fun u38 => ?_)
          · refine g_iload_n d_M_sheet_35 rfl ?_
            refine s_if_ge d_M_sheet_36 (fun u39 => ?_) (fun u39 => ?_)
            · refine g_iload_n d_M_sheet_46 rfl ?_
              refine g_bipush d_M_sheet_47 ?_
              refine s_icmp_le d_M_sheet_49 (fun u40 => ?_) (fun u40 => ?_)
              · refine g_aload_n d_M_sheet_58 rfl ?_
                refine g_getR d_M_sheet_59 fl_M_28 rfl rfl ?_
                refine g_iload_n d_M_sheet_62 rfl ?_
                refine g_iload_n d_M_sheet_63 rfl ?_
                refine g_guard (fun hb41 => ?_)
                refine g_ist d_M_sheet_64 rfl hb41 rfl ?_
                refine g_aload_n d_M_sheet_65 rfl ?_
                refine g_getR d_M_sheet_66 fl_M_31 rfl rfl ?_
                refine g_iload_n d_M_sheet_69 rfl ?_
                refine g_iload_n d_M_sheet_70 rfl ?_
                refine m_if_ne d_M_sheet_71 (fun hJ43 => g_iload_n d_M_sheet_78 rfl hJ43) (fun hJ43 => g_iconst d_M_sheet_74 (g_goto d_M_sheet_75 hJ43)) ?_
                refine g_ist d_M_sheet_79 rfl hb41 rfl ?_
                refine g_iconst d_M_sheet_80 ?_
                refine g_istore d_M_sheet_81 (by decide) ?_
                exact w_M_sheet_L83 (X := X) (d := d) 200 _ _ _ _ _
              · refine g_aload_n d_M_sheet_52 rfl ?_
                refine g_iconst d_M_sheet_53 ?_
                refine g_callV1I d_M_sheet_54 ml_M_61 vk_M_finding rfl ⟨_, rfl, rfl⟩ rfl (Nat.le_of_ble_eq_true rfl) (w_M_finding (X := X) (d := d + 1) _ _) (fun q46 => ?_)
                exact g_ireturn d_M_sheet_57 rfl rfl rfl
            · refine g_aload_n d_M_sheet_39 rfl ?_
              refine g_bipush d_M_sheet_40 ?_
              refine g_callV1I d_M_sheet_42 ml_M_61 vk_M_finding rfl ⟨_, rfl, rfl⟩ rfl (Nat.le_of_ble_eq_true rfl) (w_M_finding (X := X) (d := d + 1) _ _) (fun q47 => ?_)
              exact g_ireturn d_M_sheet_45 rfl rfl rfl
          · refine g_aload_n d_M_sheet_29 rfl ?_
            refine g_iconst d_M_sheet_30 ?_
            refine g_callV1I d_M_sheet_31 ml_M_61 vk_M_finding rfl ⟨_, rfl, rfl⟩ rfl (Nat.le_of_ble_eq_true rfl) (w_M_finding (X := X) (d := d + 1) _ _) (fun q48 => ?_)
            exact g_ireturn d_M_sheet_34 rfl rfl rfl
def f_M_write (p1 p2 p3 : Int32) (S : St) : Option (Int32 × St) := ((f_M_isSheet p1 S).bind fun q1 => (if (bI q1.1) = 0 then ((f_M_finding 0 q1.2).bind fun q12 => some (q12.1, q12.2)) else (if inb p1 4 = true then (if (q1.2 53 (p1).toNatClampNeg) = 0 then ((f_M_finding 5 q1.2).bind fun q11 => some (q11.1, q11.2)) else ((f_M_in p2 0 ((q1.2 54 (p1).toNatClampNeg) - 1) q1.2).bind fun q5 => (if (bI q5.1) = 0 then ((f_M_finding 0 q5.2).bind fun q10 => some (q10.1, q10.2)) else let x7 : Int32 := (32 - (q5.2 53 (p1).toNatClampNeg)); (if inb ((40 * p1) + p2) 160 = true then let S9 := put q5.2 55 (((40 * p1) + p2)).toNatClampNeg ((p3 <<< (x7 &&& 31)) >>> (x7 &&& 31)); some (1, S9) else none)))) else none)))
set_option maxRecDepth 4000 in
theorem w_M_write {X : xC} {d : Nat}  (p1 p2 p3 : Int32) (S : St) : SemG eI X k_M_write (d + 2) 0 [some (.ref (xB X + 46)), some (.int p1), some (.int p2), some (.int p3), none] [] S (f_M_write  p1 p2 p3 S) := by
  unfold f_M_write
  refine g_iload_n d_M_write_0 rfl ?_
  refine g_callS1B d_M_write_1 ml_M_230 sk_M_isSheet rfl (Nat.le_of_ble_eq_true rfl) (w_M_isSheet (X := X) (d := d) _ _) (fun q1 => ?_)
  refine s_if_ne d_M_write_4 (fun u2 => ?_) (fun u2 => ?_)
  · refine g_aload_n d_M_write_13 rfl ?_
    refine g_getR d_M_write_14 fl_M_28 rfl rfl ?_
    refine g_iload_n d_M_write_17 rfl ?_
    refine g_guard (fun hb3 => ?_)
    refine g_ild d_M_write_18 rfl hb3 rfl ?_
    refine s_if_ne d_M_write_19 (fun u4 => ?_) (fun u4 => ?_)
    · refine g_iload_n d_M_write_28 rfl ?_
      refine g_iconst d_M_write_29 ?_
      refine g_aload_n d_M_write_30 rfl ?_
      refine g_getR d_M_write_31 fl_M_31 rfl rfl ?_
      refine g_iload_n d_M_write_34 rfl ?_
      refine g_ild d_M_write_35 rfl hb3 rfl ?_
      refine g_iconst d_M_write_36 ?_
      refine g_isub d_M_write_37 ?_
      refine g_callS3B d_M_write_38 ml_M_45 sk_M_in rfl rfl rfl (Nat.le_of_ble_eq_true rfl) (w_M_in (X := X) (d := d + 1) _ _ _ _) (fun q5 => ?_)
      refine s_if_ne d_M_write_41 (fun u6 => ?_) (fun u6 => ?_)
      · refine g_bipush d_M_write_50 ?_
        refine g_aload_n d_M_write_52 rfl ?_
        refine g_getR d_M_write_53 fl_M_28 rfl rfl ?_
        refine g_iload_n d_M_write_56 rfl ?_
        refine g_ild d_M_write_57 rfl hb3 rfl ?_
        refine g_isub d_M_write_58 ?_
        refine g_istore d_M_write_59 (by decide) ?_
        refine g_aload_n d_M_write_61 rfl ?_
        refine g_getR d_M_write_62 fl_M_34 rfl rfl ?_
        refine g_bipush d_M_write_65 ?_
        refine g_iload_n d_M_write_67 rfl ?_
        refine g_imul d_M_write_68 ?_
        refine g_iload_n d_M_write_69 rfl ?_
        refine g_iadd d_M_write_70 ?_
        refine g_iload_n d_M_write_71 rfl ?_
        refine g_iload d_M_write_72 rfl ?_
        refine g_ishl d_M_write_74 ?_
        refine g_iload d_M_write_75 rfl ?_
        refine g_ishr d_M_write_77 ?_
        refine g_guard (fun hb8 => ?_)
        refine g_ist d_M_write_78 rfl hb8 rfl ?_
        refine g_iconst d_M_write_79 ?_
        exact g_ireturn d_M_write_80 rfl rfl rfl
      · refine g_aload_n d_M_write_44 rfl ?_
        refine g_iconst d_M_write_45 ?_
        refine g_callV1I d_M_write_46 ml_M_61 vk_M_finding rfl ⟨_, rfl, rfl⟩ rfl (Nat.le_of_ble_eq_true rfl) (w_M_finding (X := X) (d := d + 1) _ _) (fun q10 => ?_)
        exact g_ireturn d_M_write_49 rfl rfl rfl
    · refine g_aload_n d_M_write_22 rfl ?_
      refine g_iconst d_M_write_23 ?_
      refine g_callV1I d_M_write_24 ml_M_61 vk_M_finding rfl ⟨_, rfl, rfl⟩ rfl (Nat.le_of_ble_eq_true rfl) (w_M_finding (X := X) (d := d + 1) _ _) (fun q11 => ?_)
      exact g_ireturn d_M_write_27 rfl rfl rfl
  · refine g_aload_n d_M_write_7 rfl ?_
    refine g_iconst d_M_write_8 ?_
    refine g_callV1I d_M_write_9 ml_M_61 vk_M_finding rfl ⟨_, rfl, rfl⟩ rfl (Nat.le_of_ble_eq_true rfl) (w_M_finding (X := X) (d := d + 1) _ _) (fun q12 => ?_)
    exact g_ireturn d_M_write_12 rfl rfl rfl
def f_M_copy_L152 : Nat → Int32 → Int32 → Int32 → Int32 → Int32 → Int32 → St → Option (Int32 × St)
  | 0, _, _, _, _, _, _, _ => none
  | n + 1, y1, y2, y3, y4, y5, y6, S => (if y5 ≤ y6 then some (y5, S) else (if inb y6 40 = true then (if inb (((40 * y3) + y4) + y6) 160 = true then let S25 := put S 55 ((((40 * y3) + y4) + y6)).toNatClampNeg (S 56 (y6).toNatClampNeg); f_M_copy_L152   n y1 y2 y3 y4 y5 (y6 + 1) S25 else none) else none))
set_option maxRecDepth 4000 in
theorem w_M_copy_L152 {X : xC} {d : Nat}   : ∀ (n : Nat) (y1 : Int32) (y2 : Int32) (y3 : Int32) (y4 : Int32) (y5 : Int32) (y6 : Int32) (S : St), SemG eI X k_M_copy (d + 2) 152 [some (.ref (xB X + 46)), some (.int y1), some (.int y2), some (.int y3), some (.int y4), some (.int y5), some (.int y6)] [] S (f_M_copy_L152   n y1 y2 y3 y4 y5 y6 S) := by
  intro n
  induction n with
  | zero => intro _ _ _ _ _ _ _; exact g_none
  | succ n ih =>
    intro y1 y2 y3 y4 y5 y6 S
    unfold f_M_copy_L152
    refine g_iload d_M_copy_152 rfl ?_
    refine g_iload d_M_copy_154 rfl ?_
    refine s_icmp_ge d_M_copy_156 (fun u22 => ?_) (fun u22 => ?_)
    · refine g_iload d_M_copy_187 rfl ?_
      exact g_ireturn d_M_copy_189 rfl rfl rfl
    · refine g_aload_n d_M_copy_159 rfl ?_
      refine g_getR d_M_copy_160 fl_M_34 rfl rfl ?_
      refine g_bipush d_M_copy_163 ?_
      refine g_iload_n d_M_copy_165 rfl ?_
      refine g_imul d_M_copy_166 ?_
      refine g_iload d_M_copy_167 rfl ?_
      refine g_iadd d_M_copy_169 ?_
      refine g_iload d_M_copy_170 rfl ?_
      refine g_iadd d_M_copy_172 ?_
      refine g_aload_n d_M_copy_173 rfl ?_
      refine g_getR d_M_copy_174 fl_M_37 rfl rfl ?_
      refine g_iload d_M_copy_177 rfl ?_
      refine g_guard (fun hb23 => ?_)
      refine g_ild d_M_copy_179 rfl hb23 rfl ?_
      refine g_guard (fun hb24 => ?_)
      refine g_ist d_M_copy_180 rfl hb24 rfl ?_
      refine g_iinc d_M_copy_181 (by decide) rfl ?_
      refine g_goto d_M_copy_184 ?_
      exact ih _ _ _ _ _ _ _
def f_M_copy_L115 : Nat → Int32 → Int32 → Int32 → Int32 → Int32 → Int32 → St → Option (Int32 × St)
  | 0, _, _, _, _, _, _, _ => none
  | n + 1, y1, y2, y3, y4, y5, y6, S => (if y5 ≤ y6 then f_M_copy_L152   200 y1 y2 y3 y4 y5 0 S else (if inb (((40 * y1) + y2) + y6) 160 = true then (if inb y6 40 = true then let S28 := put S 56 (y6).toNatClampNeg (S 55 ((((40 * y1) + y2) + y6)).toNatClampNeg); f_M_copy_L115   n y1 y2 y3 y4 y5 (y6 + 1) S28 else none) else none))
set_option maxRecDepth 4000 in
theorem w_M_copy_L115 {X : xC} {d : Nat}   : ∀ (n : Nat) (y1 : Int32) (y2 : Int32) (y3 : Int32) (y4 : Int32) (y5 : Int32) (y6 : Int32) (S : St), SemG eI X k_M_copy (d + 2) 115 [some (.ref (xB X + 46)), some (.int y1), some (.int y2), some (.int y3), some (.int y4), some (.int y5), some (.int y6)] [] S (f_M_copy_L115   n y1 y2 y3 y4 y5 y6 S) := by
  intro n
  induction n with
  | zero => intro _ _ _ _ _ _ _; exact g_none
  | succ n ih =>
    intro y1 y2 y3 y4 y5 y6 S
    unfold f_M_copy_L115
    refine g_iload d_M_copy_115 rfl ?_
    refine g_iload d_M_copy_117 rfl ?_
    refine s_icmp_ge d_M_copy_119 (fun u21 => ?_) (fun u21 => ?_)
    · refine g_iconst d_M_copy_149 ?_
      refine g_istore d_M_copy_150 (by decide) ?_
      exact w_M_copy_L152 (X := X) (d := d) 200 _ _ _ _ _ _ _
    · refine g_aload_n d_M_copy_122 rfl ?_
      refine g_getR d_M_copy_123 fl_M_37 rfl rfl ?_
      refine g_iload d_M_copy_126 rfl ?_
      refine g_aload_n d_M_copy_128 rfl ?_
      refine g_getR d_M_copy_129 fl_M_34 rfl rfl ?_
      refine g_bipush d_M_copy_132 ?_
      refine g_iload_n d_M_copy_134 rfl ?_
      refine g_imul d_M_copy_135 ?_
      refine g_iload_n d_M_copy_136 rfl ?_
      refine g_iadd d_M_copy_137 ?_
      refine g_iload d_M_copy_138 rfl ?_
      refine g_iadd d_M_copy_140 ?_
      refine g_guard (fun hb26 => ?_)
      refine g_ild d_M_copy_141 rfl hb26 rfl ?_
      refine g_guard (fun hb27 => ?_)
      refine g_ist d_M_copy_142 rfl hb27 rfl ?_
      refine g_iinc d_M_copy_143 (by decide) rfl ?_
      refine g_goto d_M_copy_146 ?_
      exact ih _ _ _ _ _ _ _
def f_M_copy (p1 p2 p3 p4 p5 : Int32) (S : St) : Option (Int32 × St) := ((f_M_isSheet p1 S).bind fun q1 => (if (bI q1.1) = 0 then ((f_M_finding 0 q1.2).bind fun q3 => some (q3.1, q3.2)) else ((f_M_isSheet p3 q1.2).bind fun q4 => (if (bI q4.1) = 0 then ((f_M_finding 0 q4.2).bind fun q32 => some (q32.1, q32.2)) else (if inb p1 4 = true then (if (q4.2 53 (p1).toNatClampNeg) = 0 then ((f_M_finding 5 q4.2).bind fun q8 => some (q8.1, q8.2)) else (if inb p3 4 = true then (if (q4.2 53 (p3).toNatClampNeg) = 0 then ((f_M_finding 5 q4.2).bind fun q31 => some (q31.1, q31.2)) else (if (q4.2 53 (p1).toNatClampNeg) = (q4.2 53 (p3).toNatClampNeg) then (if p2 < 0 then ((f_M_finding 0 q4.2).bind fun q13 => some (q13.1, q13.2)) else (if p4 < 0 then ((f_M_finding 0 q4.2).bind fun q15 => some (q15.1, q15.2)) else (if p5 < 0 then ((f_M_finding 0 q4.2).bind fun q17 => some (q17.1, q17.2)) else (if ((q4.2 54 (p1).toNatClampNeg) - p5) < p2 then ((f_M_finding 0 q4.2).bind fun q19 => some (q19.1, q19.2)) else (if p4 ≤ ((q4.2 54 (p3).toNatClampNeg) - p5) then f_M_copy_L115   200 p1 p2 p3 p4 p5 0 q4.2 else ((f_M_finding 0 q4.2).bind fun q29 => some (q29.1, q29.2))))))) else ((f_M_finding 2 q4.2).bind fun q30 => some (q30.1, q30.2)))) else none)) else none)))))
set_option maxRecDepth 4000 in
theorem w_M_copy {X : xC} {d : Nat}  (p1 p2 p3 p4 p5 : Int32) (S : St) : SemG eI X k_M_copy (d + 2) 0 [some (.ref (xB X + 46)), some (.int p1), some (.int p2), some (.int p3), some (.int p4), some (.int p5), none] [] S (f_M_copy  p1 p2 p3 p4 p5 S) := by
  unfold f_M_copy
  refine g_iload_n d_M_copy_0 rfl ?_
  refine g_callS1B d_M_copy_1 ml_M_230 sk_M_isSheet rfl (Nat.le_of_ble_eq_true rfl) (w_M_isSheet (X := X) (d := d) _ _) (fun q1 => ?_)
  refine s_if_eq d_M_copy_4 (fun u2 => ?_) (fun u2 => ?_)
  · refine g_aload_n d_M_copy_14 rfl ?_
    refine g_iconst d_M_copy_15 ?_
    refine g_callV1I d_M_copy_16 ml_M_61 vk_M_finding rfl ⟨_, rfl, rfl⟩ rfl (Nat.le_of_ble_eq_true rfl) (w_M_finding (X := X) (d := d + 1) _ _) (fun q3 => ?_)
    exact g_ireturn d_M_copy_19 rfl rfl rfl
  · refine g_iload_n d_M_copy_7 rfl ?_
    refine g_callS1B d_M_copy_8 ml_M_230 sk_M_isSheet rfl (Nat.le_of_ble_eq_true rfl) (w_M_isSheet (X := X) (d := d) _ _) (fun q4 => ?_)
    refine s_if_ne d_M_copy_11 (fun u5 => ?_) (fun u5 => ?_)
    · refine g_aload_n d_M_copy_20 rfl ?_
      refine g_getR d_M_copy_21 fl_M_28 rfl rfl ?_
      refine g_iload_n d_M_copy_24 rfl ?_
      refine g_guard (fun hb6 => ?_)
      refine g_ild d_M_copy_25 rfl hb6 rfl ?_
      refine s_if_eq d_M_copy_26 (fun u7 => ?_) (fun u7 => ?_)
      · refine g_aload_n d_M_copy_38 rfl ?_
        refine g_iconst d_M_copy_39 ?_
        refine g_callV1I d_M_copy_40 ml_M_61 vk_M_finding rfl ⟨_, rfl, rfl⟩ rfl (Nat.le_of_ble_eq_true rfl) (w_M_finding (X := X) (d := d + 1) _ _) (fun q8 => ?_)
        exact g_ireturn d_M_copy_43 rfl rfl rfl
      · refine g_aload_n d_M_copy_29 rfl ?_
        refine g_getR d_M_copy_30 fl_M_28 rfl rfl ?_
        refine g_iload_n d_M_copy_33 rfl ?_
        refine g_guard (fun hb9 => ?_)
        refine g_ild d_M_copy_34 rfl hb9 rfl ?_
        refine s_if_ne d_M_copy_35 (fun u10 => ?_) (fun u10 => ?_)
        · refine g_aload_n d_M_copy_44 rfl ?_
          refine g_getR d_M_copy_45 fl_M_28 rfl rfl ?_
          refine g_iload_n d_M_copy_48 rfl ?_
          refine g_ild d_M_copy_49 rfl hb6 rfl ?_
          refine g_aload_n d_M_copy_50 rfl ?_
          refine g_getR d_M_copy_51 fl_M_28 rfl rfl ?_
          refine g_iload_n d_M_copy_54 rfl ?_
          refine g_ild d_M_copy_55 rfl hb9 rfl ?_
          refine s_icmp_eq d_M_copy_56 (fun u11 => ?_) (fun u11 => ?_)
          · refine g_iload_n d_M_copy_65 rfl ?_
            refine s_if_lt d_M_copy_66 (fun u12 => ?_) (fun u12 => ?_)
            · refine g_aload_n d_M_copy_106 rfl ?_
              refine g_iconst d_M_copy_107 ?_
              refine g_callV1I d_M_copy_108 ml_M_61 vk_M_finding rfl ⟨_, rfl, rfl⟩ rfl (Nat.le_of_ble_eq_true rfl) (w_M_finding (X := X) (d := d + 1) _ _) (fun q13 => ?_)
              exact g_ireturn d_M_copy_111 rfl rfl rfl
            · refine g_iload d_M_copy_69 rfl ?_
              refine s_if_lt d_M_copy_71 (fun u14 => ?_) (fun u14 => ?_)
              · refine g_aload_n d_M_copy_106 rfl ?_
                refine g_iconst d_M_copy_107 ?_
                refine g_callV1I d_M_copy_108 ml_M_61 vk_M_finding rfl ⟨_, rfl, rfl⟩ rfl (Nat.le_of_ble_eq_true rfl) (w_M_finding (X := X) (d := d + 1) _ _) (fun q15 => ?_)
                exact g_ireturn d_M_copy_111 rfl rfl rfl
              · refine g_iload d_M_copy_74 rfl ?_
                refine s_if_lt d_M_copy_76 (fun u16 => ?_) (fun u16 => ?_)
                · refine g_aload_n d_M_copy_106 rfl ?_
                  refine g_iconst d_M_copy_107 ?_
                  refine g_callV1I d_M_copy_108 ml_M_61 vk_M_finding rfl ⟨_, rfl, rfl⟩ rfl (Nat.le_of_ble_eq_true rfl) (w_M_finding (X := X) (d := d + 1) _ _) (fun q17 => ?_)
                  exact g_ireturn d_M_copy_111 rfl rfl rfl
                · refine g_iload_n d_M_copy_79 rfl ?_
                  refine g_aload_n d_M_copy_80 rfl ?_
                  refine g_getR d_M_copy_81 fl_M_31 rfl rfl ?_
                  refine g_iload_n d_M_copy_84 rfl ?_
                  refine g_ild d_M_copy_85 rfl hb6 rfl ?_
                  refine g_iload d_M_copy_86 rfl ?_
                  refine g_isub d_M_copy_88 ?_
                  refine s_icmp_gt d_M_copy_89 (fun u18 => ?_) (fun u18 => ?_)
                  · refine g_aload_n d_M_copy_106 rfl ?_
                    refine g_iconst d_M_copy_107 ?_
                    refine g_callV1I d_M_copy_108 ml_M_61 vk_M_finding rfl ⟨_, rfl, rfl⟩ rfl (Nat.le_of_ble_eq_true rfl) (w_M_finding (X := X) (d := d + 1) _ _) (fun q19 => ?_)
                    exact g_ireturn d_M_copy_111 rfl rfl rfl
                  · refine g_iload d_M_copy_92 rfl ?_
                    refine g_aload_n d_M_copy_94 rfl ?_
                    refine g_getR d_M_copy_95 fl_M_31 rfl rfl ?_
                    refine g_iload_n d_M_copy_98 rfl ?_
                    refine g_ild d_M_copy_99 rfl hb9 rfl ?_
                    refine g_iload d_M_copy_100 rfl ?_
                    refine g_isub d_M_copy_102 ?_
                    refine s_icmp_le d_M_copy_103 (fun u20 => ?_) (fun u20 => ?_)
                    · refine g_iconst d_M_copy_112 ?_
                      refine g_istore d_M_copy_113 (by decide) ?_
                      exact w_M_copy_L115 (X := X) (d := d) 200 _ _ _ _ _ _ _
                    · refine g_aload_n d_M_copy_106 rfl ?_
                      refine g_iconst d_M_copy_107 ?_
                      refine g_callV1I d_M_copy_108 ml_M_61 vk_M_finding rfl ⟨_, rfl, rfl⟩ rfl (Nat.le_of_ble_eq_true rfl) (w_M_finding (X := X) (d := d + 1) _ _) (fun q29 => ?_)
                      exact g_ireturn d_M_copy_111 rfl rfl rfl
          · refine g_aload_n d_M_copy_59 rfl ?_
            refine g_iconst d_M_copy_60 ?_
            refine g_callV1I d_M_copy_61 ml_M_61 vk_M_finding rfl ⟨_, rfl, rfl⟩ rfl (Nat.le_of_ble_eq_true rfl) (w_M_finding (X := X) (d := d + 1) _ _) (fun q30 => ?_)
            exact g_ireturn d_M_copy_64 rfl rfl rfl
        · refine g_aload_n d_M_copy_38 rfl ?_
          refine g_iconst d_M_copy_39 ?_
          refine g_callV1I d_M_copy_40 ml_M_61 vk_M_finding rfl ⟨_, rfl, rfl⟩ rfl (Nat.le_of_ble_eq_true rfl) (w_M_finding (X := X) (d := d + 1) _ _) (fun q31 => ?_)
          exact g_ireturn d_M_copy_43 rfl rfl rfl
    · refine g_aload_n d_M_copy_14 rfl ?_
      refine g_iconst d_M_copy_15 ?_
      refine g_callV1I d_M_copy_16 ml_M_61 vk_M_finding rfl ⟨_, rfl, rfl⟩ rfl (Nat.le_of_ble_eq_true rfl) (w_M_finding (X := X) (d := d + 1) _ _) (fun q32 => ?_)
      exact g_ireturn d_M_copy_19 rfl rfl rfl
def f_M_lacks (p1 : Int32) (S : St) : Option (Int32 × St) := ((f_M_isSheet p1 S).bind fun q1 => (if (bI q1.1) = 0 then some (0, q1.2) else (if inb p1 4 = true then let x5 : Int32 := (if (q1.2 53 (p1).toNatClampNeg) = 0 then 5 else (-1)); some (x5, q1.2) else none)))
set_option maxRecDepth 4000 in
theorem w_M_lacks {X : xC} {d : Nat}  (p1 : Int32) (S : St) : SemG eI X k_M_lacks (d + 2) 0 [some (.ref (xB X + 46)), some (.int p1)] [] S (f_M_lacks  p1 S) := by
  unfold f_M_lacks
  refine g_iload_n d_M_lacks_0 rfl ?_
  refine g_callS1B d_M_lacks_1 ml_M_230 sk_M_isSheet rfl (Nat.le_of_ble_eq_true rfl) (w_M_isSheet (X := X) (d := d) _ _) (fun q1 => ?_)
  refine s_if_ne d_M_lacks_4 (fun u2 => ?_) (fun u2 => ?_)
  · refine g_aload_n d_M_lacks_11 rfl ?_
    refine g_getR d_M_lacks_12 fl_M_28 rfl rfl ?_
    refine g_iload_n d_M_lacks_15 rfl ?_
    refine g_guard (fun hb3 => ?_)
    refine g_ild d_M_lacks_16 rfl hb3 rfl ?_
    refine m_if_ne d_M_lacks_17 (fun hJ4 => g_iconst d_M_lacks_24 hJ4) (fun hJ4 => g_iconst d_M_lacks_20 (g_goto d_M_lacks_21 hJ4)) ?_
    exact g_ireturn d_M_lacks_25 rfl rfl rfl
  · refine g_iconst d_M_lacks_7 ?_
    refine g_goto d_M_lacks_8 ?_
    exact g_ireturn d_M_lacks_25 rfl rfl rfl
def f_M_load_L32 : Nat → Int32 → Int32 → Int32 → Int32 → St → Option (Int32 × St)
  | 0, _, _, _, _, _ => none
  | n + 1, y1, y2, y3, y4, S => (if inb y1 4 = true then (if (S 54 (y1).toNatClampNeg) ≤ y4 then some (y4, S) else ((f_M_isYard (y2 + y4) S).bind fun q7 => (if (bI q7.1) = 0 then some (y4, q7.2) else (if inb ((40 * y1) + y4) 160 = true then ((f_M_in (q7.2 55 (((40 * y1) + y4)).toNatClampNeg) 0 99 q7.2).bind fun q10 => (if (bI q10.1) = 0 then some (y4, q10.2) else (if inb ((12 + y2) + y4) 92 = true then let S13 := put q10.2 47 (((12 + y2) + y4)).toNatClampNeg (q10.2 55 (((40 * y1) + y4)).toNatClampNeg); f_M_load_L32   n y1 y2 y3 (y4 + 1) S13 else none))) else none)))) else none)
set_option maxRecDepth 4000 in
theorem w_M_load_L32 {X : xC} {d : Nat}   : ∀ (n : Nat) (y1 : Int32) (y2 : Int32) (y3 : Int32) (y4 : Int32) (S : St), SemG eI X k_M_load (d + 3) 32 [some (.ref (xB X + 46)), some (.int y1), some (.int y2), some (.int y3), some (.int y4)] [] S (f_M_load_L32   n y1 y2 y3 y4 S) := by
  intro n
  induction n with
  | zero => intro _ _ _ _ _; exact g_none
  | succ n ih =>
    intro y1 y2 y3 y4 S
    unfold f_M_load_L32
    refine g_iload d_M_load_32 rfl ?_
    refine g_aload_n d_M_load_34 rfl ?_
    refine g_getR d_M_load_35 fl_M_31 rfl rfl ?_
    refine g_iload_n d_M_load_38 rfl ?_
    refine g_guard (fun hb5 => ?_)
    refine g_ild d_M_load_39 rfl hb5 rfl ?_
    refine s_icmp_ge d_M_load_40 (fun u6 => ?_) (fun u6 => ?_)
    · refine g_iload d_M_load_104 rfl ?_
      exact g_ireturn d_M_load_106 rfl rfl rfl
    · refine g_iload_n d_M_load_43 rfl ?_
      refine g_iload d_M_load_44 rfl ?_
      refine g_iadd d_M_load_46 ?_
      refine g_callS1B d_M_load_47 ml_M_49 sk_M_isYard rfl (Nat.le_of_ble_eq_true rfl) (w_M_isYard (X := X) (d := d + 1) _ _) (fun q7 => ?_)
      refine s_if_eq d_M_load_50 (fun u8 => ?_) (fun u8 => ?_)
      · refine g_iload d_M_load_104 rfl ?_
        exact g_ireturn d_M_load_106 rfl rfl rfl
      · refine g_aload_n d_M_load_53 rfl ?_
        refine g_getR d_M_load_54 fl_M_34 rfl rfl ?_
        refine g_bipush d_M_load_57 ?_
        refine g_iload_n d_M_load_59 rfl ?_
        refine g_imul d_M_load_60 ?_
        refine g_iload d_M_load_61 rfl ?_
        refine g_iadd d_M_load_63 ?_
        refine g_guard (fun hb9 => ?_)
        refine g_ild d_M_load_64 rfl hb9 rfl ?_
        refine g_iconst d_M_load_65 ?_
        refine g_bipush d_M_load_66 ?_
        refine g_callS3B d_M_load_68 ml_M_45 sk_M_in rfl rfl rfl (Nat.le_of_ble_eq_true rfl) (w_M_in (X := X) (d := d + 2) _ _ _ _) (fun q10 => ?_)
        refine s_if_eq d_M_load_71 (fun u11 => ?_) (fun u11 => ?_)
        · refine g_iload d_M_load_104 rfl ?_
          exact g_ireturn d_M_load_106 rfl rfl rfl
        · refine g_aload_n d_M_load_74 rfl ?_
          refine g_getR d_M_load_75 fl_M_7 rfl rfl ?_
          refine g_bipush d_M_load_78 ?_
          refine g_iload_n d_M_load_80 rfl ?_
          refine g_iadd d_M_load_81 ?_
          refine g_iload d_M_load_82 rfl ?_
          refine g_iadd d_M_load_84 ?_
          refine g_aload_n d_M_load_85 rfl ?_
          refine g_getR d_M_load_86 fl_M_34 rfl rfl ?_
          refine g_bipush d_M_load_89 ?_
          refine g_iload_n d_M_load_91 rfl ?_
          refine g_imul d_M_load_92 ?_
          refine g_iload d_M_load_93 rfl ?_
          refine g_iadd d_M_load_95 ?_
          refine g_ild d_M_load_96 rfl hb9 rfl ?_
          refine g_guard (fun hb12 => ?_)
          refine g_ist d_M_load_97 rfl hb12 rfl ?_
          refine g_iinc d_M_load_98 (by decide) rfl ?_
          refine g_goto d_M_load_101 ?_
          exact ih _ _ _ _ _
def f_M_load (p1 p2 : Int32) (S : St) : Option (Int32 × St) := ((f_M_lacks p1 S).bind fun q1 => (if q1.1 < 0 then ((f_M_isYard p2 q1.2).bind fun q3 => (if (bI q3.1) = 0 then ((f_M_finding 0 q3.2).bind fun q14 => some (q14.1, q14.2)) else f_M_load_L32   200 p1 p2 q1.1 0 q3.2)) else ((f_M_finding q1.1 q1.2).bind fun q15 => some (q15.1, q15.2))))
set_option maxRecDepth 4000 in
theorem w_M_load {X : xC} {d : Nat}  (p1 p2 : Int32) (S : St) : SemG eI X k_M_load (d + 3) 0 [some (.ref (xB X + 46)), some (.int p1), some (.int p2), none, none] [] S (f_M_load  p1 p2 S) := by
  unfold f_M_load
  refine g_aload_n d_M_load_0 rfl ?_
  refine g_iload_n d_M_load_1 rfl ?_
  refine g_callV1I d_M_load_2 ml_M_233 vk_M_lacks rfl ⟨_, rfl, rfl⟩ rfl (Nat.le_of_ble_eq_true rfl) (w_M_lacks (X := X) (d := d) _ _) (fun q1 => ?_)
  refine g_istore_n d_M_load_5 (by decide) ?_
  refine g_iload_n d_M_load_6 rfl ?_
  refine s_if_lt d_M_load_7 (fun u2 => ?_) (fun u2 => ?_)
  · refine g_iload_n d_M_load_16 rfl ?_
    refine g_callS1B d_M_load_17 ml_M_49 sk_M_isYard rfl (Nat.le_of_ble_eq_true rfl) (w_M_isYard (X := X) (d := d + 1) _ _) (fun q3 => ?_)
    refine s_if_ne d_M_load_20 (fun u4 => ?_) (fun u4 => ?_)
    · refine g_iconst d_M_load_29 ?_
      refine g_istore d_M_load_30 (by decide) ?_
      exact w_M_load_L32 (X := X) (d := d) 200 _ _ _ _ _
    · refine g_aload_n d_M_load_23 rfl ?_
      refine g_iconst d_M_load_24 ?_
      refine g_callV1I d_M_load_25 ml_M_61 vk_M_finding rfl ⟨_, rfl, rfl⟩ rfl (Nat.le_of_ble_eq_true rfl) (w_M_finding (X := X) (d := d + 2) _ _) (fun q14 => ?_)
      exact g_ireturn d_M_load_28 rfl rfl rfl
  · refine g_aload_n d_M_load_10 rfl ?_
    refine g_iload_n d_M_load_11 rfl ?_
    refine g_callV1I d_M_load_12 ml_M_61 vk_M_finding rfl ⟨_, rfl, rfl⟩ rfl (Nat.le_of_ble_eq_true rfl) (w_M_finding (X := X) (d := d + 2) _ _) (fun q15 => ?_)
    exact g_ireturn d_M_load_15 rfl rfl rfl
def f_M_judge_L25 : Nat → Int32 → Int32 → Int32 → Int32 → St → Option (Int32 × St)
  | 0, _, _, _, _, _ => none
  | n + 1, y1, y2, y3, y4, S => (if inb y1 4 = true then (if (S 54 (y1).toNatClampNeg) ≤ y3 then ((f_M_layBack S).bind fun q6 => let x8 : Int32 := (if y4 = 0 then (1 + y3) else 0); some (x8, q6)) else (if y4 = 0 then ((f_M_layBack S).bind fun q10 => let x12 : Int32 := (if y4 = 0 then (1 + y3) else 0); some (x12, q10)) else (if (S 47 11) ≤ y3 then f_M_judge_L25   n y1 y2 (y3 + 0) 0 S else (if inb (72 + y3) 92 = true then ((f_M_canDo (S 47 ((72 + y3)).toNatClampNeg) S).bind fun q15 => let x17 : Int32 := (if (bI q15.1) = 0 then 0 else 1); (if x17 = 0 then let x20 : Int32 := (if x17 = 0 then 0 else 1); f_M_judge_L25   n y1 y2 (y3 + x20) x17 q15.2 else ((f_M_does (q15.2 47 ((72 + y3)).toNatClampNeg) q15.2).bind fun q21 => (if inb ((40 * y1) + y3) 160 = true then let x24 : Int32 := (if (q21 47 0) = (q21 55 (((40 * y1) + y3)).toNatClampNeg) then 1 else 0); let x26 : Int32 := (if x24 = 0 then 0 else 1); f_M_judge_L25   n y1 y2 (y3 + x26) x24 q21 else none)))) else none)))) else none)
set_option maxRecDepth 4000 in
theorem w_M_judge_L25 {X : xC} {d : Nat}   : ∀ (n : Nat) (y1 : Int32) (y2 : Int32) (y3 : Int32) (y4 : Int32) (S : St), SemG eI X k_M_judge (d + 5) 25 [some (.ref (xB X + 46)), some (.int y1), some (.int y2), some (.int y3), some (.int y4)] [] S (f_M_judge_L25   n y1 y2 y3 y4 S) := by
  intro n
  induction n with
  | zero => intro _ _ _ _ _; exact g_none
  | succ n ih =>
    intro y1 y2 y3 y4 S
    unfold f_M_judge_L25
    refine g_iload_n d_M_judge_25 rfl ?_
    refine g_aload_n d_M_judge_26 rfl ?_
    refine g_getR d_M_judge_27 fl_M_31 rfl rfl ?_
    refine g_iload_n d_M_judge_30 rfl ?_
    refine g_guard (fun hb4 => ?_)
    refine g_ild d_M_judge_31 rfl hb4 rfl ?_
    refine s_icmp_ge d_M_judge_32 (fun u5 => ?_) (fun u5 => ?_)
    · refine g_aload_n d_M_judge_135 rfl ?_
      refine g_callV0V d_M_judge_136 ml_M_121 vk_M_layBack rfl ⟨_, rfl, rfl⟩ (Nat.le_of_ble_eq_true rfl) (w_M_layBack (X := X) (d := d + 3) _) (fun q6 => ?_)
      refine g_iload d_M_judge_139 rfl ?_
      refine m_if_eq d_M_judge_141 (fun hJ7 => g_iconst d_M_judge_148 (g_iload_n d_M_judge_149 rfl (g_iadd d_M_judge_150 hJ7))) (fun hJ7 => g_iconst d_M_judge_144 (g_goto d_M_judge_145 hJ7)) ?_
      exact g_ireturn d_M_judge_151 rfl rfl rfl
    · refine g_iload d_M_judge_35 rfl ?_
      refine s_if_eq d_M_judge_37 (fun u9 => ?_) (fun u9 => ?_)
      · refine g_aload_n d_M_judge_135 rfl ?_
        refine g_callV0V d_M_judge_136 ml_M_121 vk_M_layBack rfl ⟨_, rfl, rfl⟩ (Nat.le_of_ble_eq_true rfl) (w_M_layBack (X := X) (d := d + 3) _) (fun q10 => ?_)
        refine g_iload d_M_judge_139 rfl ?_
        refine m_if_eq d_M_judge_141 (fun hJ11 => g_iconst d_M_judge_148 (g_iload_n d_M_judge_149 rfl (g_iadd d_M_judge_150 hJ11))) (fun hJ11 => g_iconst d_M_judge_144 (g_goto d_M_judge_145 hJ11)) ?_
        exact g_ireturn d_M_judge_151 rfl rfl rfl
      · refine g_iload_n d_M_judge_40 rfl ?_
        refine g_aload_n d_M_judge_41 rfl ?_
        refine g_getR d_M_judge_42 fl_M_7 rfl rfl ?_
        refine g_bipush d_M_judge_45 ?_
        refine g_ild d_M_judge_47 rfl il_11_92.1 il_11_92.2 ?_
        refine s_icmp_ge d_M_judge_48 (fun u13 => ?_) (fun u13 => ?_)
        · refine g_iconst d_M_judge_71 ?_
          refine g_istore d_M_judge_72 (by decide) ?_
          refine g_iload d_M_judge_74 rfl ?_
          refine g_if_eq d_M_judge_76 (fun _ => ?_) (fun h => absurd (by decide) h)
          refine g_iload_n d_M_judge_119 rfl ?_
          refine g_iload d_M_judge_120 rfl ?_
          refine g_if_eq d_M_judge_122 (fun _ => ?_) (fun h => absurd (by decide) h)
          refine g_iconst d_M_judge_129 ?_
          refine g_iadd d_M_judge_130 ?_
          refine g_istore_n d_M_judge_131 (by decide) ?_
          refine g_goto d_M_judge_132 ?_
          exact ih _ _ _ _ _
        · refine g_aload_n d_M_judge_51 rfl ?_
          refine g_aload_n d_M_judge_52 rfl ?_
          refine g_getR d_M_judge_53 fl_M_7 rfl rfl ?_
          refine g_bipush d_M_judge_56 ?_
          refine g_iload_n d_M_judge_58 rfl ?_
          refine g_iadd d_M_judge_59 ?_
          refine g_guard (fun hb14 => ?_)
          refine g_ild d_M_judge_60 rfl hb14 rfl ?_
          refine g_callV1B d_M_judge_61 ml_M_114 vk_M_canDo rfl ⟨_, rfl, rfl⟩ rfl (Nat.le_of_ble_eq_true rfl) (w_M_canDo (X := X) (d := d + 1) _ _) (fun q15 => ?_)
          refine m_if_eq d_M_judge_64 (fun hJ16 => g_iconst d_M_judge_71 hJ16) (fun hJ16 => g_iconst d_M_judge_67 (g_goto d_M_judge_68 hJ16)) ?_
          refine g_istore d_M_judge_72 (by decide) ?_
          refine g_iload d_M_judge_74 rfl ?_
          refine s_if_eq d_M_judge_76 (fun u18 => ?_) (fun u18 => ?_)
          · refine g_iload_n d_M_judge_119 rfl ?_
            refine g_iload d_M_judge_120 rfl ?_
            refine m_if_eq d_M_judge_122 (fun hJ19 => g_iconst d_M_judge_129 hJ19) (fun hJ19 => g_iconst d_M_judge_125 (g_goto d_M_judge_126 hJ19)) ?_
            refine g_iadd d_M_judge_130 ?_
            refine g_istore_n d_M_judge_131 (by decide) ?_
            refine g_goto d_M_judge_132 ?_
            exact ih _ _ _ _ _
          · refine g_aload_n d_M_judge_79 rfl ?_
            refine g_aload_n d_M_judge_80 rfl ?_
            refine g_getR d_M_judge_81 fl_M_7 rfl rfl ?_
            refine g_bipush d_M_judge_84 ?_
            refine g_iload_n d_M_judge_86 rfl ?_
            refine g_iadd d_M_judge_87 ?_
            refine g_ild d_M_judge_88 rfl hb14 rfl ?_
            refine g_callV1V d_M_judge_89 ml_M_117 vk_M_does rfl ⟨_, rfl, rfl⟩ rfl (Nat.le_of_ble_eq_true rfl) (w_M_does (X := X) (d := d) _ _) (fun q21 => ?_)
            refine g_aload_n d_M_judge_92 rfl ?_
            refine g_getR d_M_judge_93 fl_M_7 rfl rfl ?_
            refine g_iconst d_M_judge_96 ?_
            refine g_ild d_M_judge_97 rfl il_0_92.1 il_0_92.2 ?_
            refine g_aload_n d_M_judge_98 rfl ?_
            refine g_getR d_M_judge_99 fl_M_34 rfl rfl ?_
            refine g_bipush d_M_judge_102 ?_
            refine g_iload_n d_M_judge_104 rfl ?_
            refine g_imul d_M_judge_105 ?_
            refine g_iload_n d_M_judge_106 rfl ?_
            refine g_iadd d_M_judge_107 ?_
            refine g_guard (fun hb22 => ?_)
            refine g_ild d_M_judge_108 rfl hb22 rfl ?_
            refine m_icmp_ne d_M_judge_109 (fun hJ23 => g_iconst d_M_judge_116 hJ23) (fun hJ23 => g_iconst d_M_judge_112 (g_goto d_M_judge_113 hJ23)) ?_
            refine g_istore d_M_judge_117 (by decide) ?_
            refine g_iload_n d_M_judge_119 rfl ?_
            refine g_iload d_M_judge_120 rfl ?_
            refine m_if_eq d_M_judge_122 (fun hJ25 => g_iconst d_M_judge_129 hJ25) (fun hJ25 => g_iconst d_M_judge_125 (g_goto d_M_judge_126 hJ25)) ?_
            refine g_iadd d_M_judge_130 ?_
            refine g_istore_n d_M_judge_131 (by decide) ?_
            refine g_goto d_M_judge_132 ?_
            exact ih _ _ _ _ _
def f_M_judge (p1 : Int32) (S : St) : Option (Int32 × St) := ((f_M_lacks p1 S).bind fun q1 => (if q1.1 < 0 then ((f_M_begin q1.2).bind fun q3 => f_M_judge_L25   200 p1 q1.1 0 1 q3) else ((f_M_finding q1.1 q1.2).bind fun q27 => some (q27.1, q27.2))))
set_option maxRecDepth 4000 in
theorem w_M_judge {X : xC} {d : Nat}  (p1 : Int32) (S : St) : SemG eI X k_M_judge (d + 5) 0 [some (.ref (xB X + 46)), some (.int p1), none, none, none] [] S (f_M_judge  p1 S) := by
  unfold f_M_judge
  refine g_aload_n d_M_judge_0 rfl ?_
  refine g_iload_n d_M_judge_1 rfl ?_
  refine g_callV1I d_M_judge_2 ml_M_233 vk_M_lacks rfl ⟨_, rfl, rfl⟩ rfl (Nat.le_of_ble_eq_true rfl) (w_M_lacks (X := X) (d := d + 2) _ _) (fun q1 => ?_)
  refine g_istore_n d_M_judge_5 (by decide) ?_
  refine g_iload_n d_M_judge_6 rfl ?_
  refine s_if_lt d_M_judge_7 (fun u2 => ?_) (fun u2 => ?_)
  · refine g_aload_n d_M_judge_16 rfl ?_
    refine g_callV0V d_M_judge_17 ml_M_124 vk_M_begin rfl ⟨_, rfl, rfl⟩ (Nat.le_of_ble_eq_true rfl) (w_M_begin (X := X) (d := d + 3) _) (fun q3 => ?_)
    refine g_iconst d_M_judge_20 ?_
    refine g_istore_n d_M_judge_21 (by decide) ?_
    refine g_iconst d_M_judge_22 ?_
    refine g_istore d_M_judge_23 (by decide) ?_
    exact w_M_judge_L25 (X := X) (d := d) 200 _ _ _ _ _
  · refine g_aload_n d_M_judge_10 rfl ?_
    refine g_iload_n d_M_judge_11 rfl ?_
    refine g_callV1I d_M_judge_12 ml_M_61 vk_M_finding rfl ⟨_, rfl, rfl⟩ rfl (Nat.le_of_ble_eq_true rfl) (w_M_finding (X := X) (d := d + 4) _ _) (fun q27 => ?_)
    exact g_ireturn d_M_judge_15 rfl rfl rfl
def f_M_image (S : St) : Option (Int32 × St) := ((f_M_lay 47 48 S).bind fun q1 => let S2 := put q1 46 3 1; some (1, S2))
set_option maxRecDepth 4000 in
theorem w_M_image {X : xC} {d : Nat}  (S : St) : SemG eI X k_M_image (d + 1) 0 [some (.ref (xB X + 46))] [] S (f_M_image   S) := by
  unfold f_M_image
  refine g_aload_n d_M_image_0 rfl ?_
  refine g_getR d_M_image_1 fl_M_7 rfl rfl ?_
  refine g_aload_n d_M_image_4 rfl ?_
  refine g_getR d_M_image_5 fl_M_13 rfl rfl ?_
  refine g_callS2V d_M_image_8 ml_M_41 sk_M_lay rfl rfl (Nat.le_of_ble_eq_true rfl) (w_M_lay (X := X) (d := d) rfl rfl _) (fun q1 => ?_)
  refine g_aload_n d_M_image_11 rfl ?_
  refine g_iconst d_M_image_12 ?_
  refine g_putI d_M_image_13 fl_M_236 ⟨_, rfl, rfl⟩ rfl rfl rfl rfl ?_
  refine g_iconst d_M_image_16 ?_
  exact g_ireturn d_M_image_17 rfl rfl rfl
def f_M_undo (S : St) : Option (Int32 × St) := (if (S 46 3) = 0 then ((f_M_finding 3 S).bind fun q3 => some (q3.1, q3.2)) else ((f_M_lay 48 47 S).bind fun q2 => some ((q2 47 7), q2)))
set_option maxRecDepth 4000 in
theorem w_M_undo {X : xC} {d : Nat}  (S : St) : SemG eI X k_M_undo (d + 1) 0 [some (.ref (xB X + 46))] [] S (f_M_undo   S) := by
  unfold f_M_undo
  refine g_aload_n d_M_undo_0 rfl ?_
  refine g_getI d_M_undo_1 fl_M_236 rfl rfl ?_
  refine s_if_ne d_M_undo_4 (fun u1 => ?_) (fun u1 => ?_)
  · refine g_aload_n d_M_undo_13 rfl ?_
    refine g_getR d_M_undo_14 fl_M_13 rfl rfl ?_
    refine g_aload_n d_M_undo_17 rfl ?_
    refine g_getR d_M_undo_18 fl_M_7 rfl rfl ?_
    refine g_callS2V d_M_undo_21 ml_M_41 sk_M_lay rfl rfl (Nat.le_of_ble_eq_true rfl) (w_M_lay (X := X) (d := d) rfl rfl _) (fun q2 => ?_)
    refine g_aload_n d_M_undo_24 rfl ?_
    refine g_getR d_M_undo_25 fl_M_7 rfl rfl ?_
    refine g_bipush d_M_undo_28 ?_
    refine g_ild d_M_undo_30 rfl il_7_92.1 il_7_92.2 ?_
    exact g_ireturn d_M_undo_31 rfl rfl rfl
  · refine g_aload_n d_M_undo_7 rfl ?_
    refine g_iconst d_M_undo_8 ?_
    refine g_callV1I d_M_undo_9 ml_M_61 vk_M_finding rfl ⟨_, rfl, rfl⟩ rfl (Nat.le_of_ble_eq_true rfl) (w_M_finding (X := X) (d := d) _ _) (fun q3 => ?_)
    exact g_ireturn d_M_undo_12 rfl rfl rfl
def f_M_tear (S : St) : Option (Int32 × St) := let x2 : Int32 := (if (S 46 3) = 0 then 0 else 1); let S3 := put S 46 3 0; some (x2, S3)
set_option maxRecDepth 4000 in
theorem w_M_tear {X : xC} {d : Nat}  (S : St) : SemG eI X k_M_tear (d) 0 [some (.ref (xB X + 46)), none] [] S (f_M_tear   S) := by
  unfold f_M_tear
  refine g_aload_n d_M_tear_0 rfl ?_
  refine g_getI d_M_tear_1 fl_M_236 rfl rfl ?_
  refine m_if_eq d_M_tear_4 (fun hJ1 => g_iconst d_M_tear_11 hJ1) (fun hJ1 => g_iconst d_M_tear_7 (g_goto d_M_tear_8 hJ1)) ?_
  refine g_istore_n d_M_tear_12 (by decide) ?_
  refine g_aload_n d_M_tear_13 rfl ?_
  refine g_iconst d_M_tear_14 ?_
  refine g_putI d_M_tear_15 fl_M_236 ⟨_, rfl, rfl⟩ rfl rfl rfl rfl ?_
  refine g_iload_n d_M_tear_18 rfl ?_
  exact g_ireturn d_M_tear_19 rfl rfl rfl
def f_M_told_L5 : Nat → Int32 → Int32 → Int32 → Int32 → St → Option (Int32 × St)
  | 0, _, _, _, _, _ => none
  | n + 1, y1, y2, y3, y4, S => (if y2 ≤ y4 then some (y3, S) else (if inb (y1 + y4) 92 = true then let x4 : Int32 := (if (S 47 ((y1 + y4)).toNatClampNeg) = (-1) then 0 else 1); f_M_told_L5   n y1 y2 (y3 + x4) (y4 + 1) S else none))
set_option maxRecDepth 4000 in
theorem w_M_told_L5 {X : xC} {d : Nat}   : ∀ (n : Nat) (y1 : Int32) (y2 : Int32) (y3 : Int32) (y4 : Int32) (S : St), SemG eI X k_M_told (d) 5 [some (.ref (xB X + 46)), some (.int y1), some (.int y2), some (.int y3), some (.int y4)] [] S (f_M_told_L5   n y1 y2 y3 y4 S) := by
  intro n
  induction n with
  | zero => intro _ _ _ _ _; exact g_none
  | succ n ih =>
    intro y1 y2 y3 y4 S
    unfold f_M_told_L5
    refine g_iload d_M_told_5 rfl ?_
    refine g_iload_n d_M_told_7 rfl ?_
    refine s_icmp_ge d_M_told_8 (fun u1 => ?_) (fun u1 => ?_)
    · refine g_iload_n d_M_told_38 rfl ?_
      exact g_ireturn d_M_told_39 rfl rfl rfl
    · refine g_iload_n d_M_told_11 rfl ?_
      refine g_aload_n d_M_told_12 rfl ?_
      refine g_getR d_M_told_13 fl_M_7 rfl rfl ?_
      refine g_iload_n d_M_told_16 rfl ?_
      refine g_iload d_M_told_17 rfl ?_
      refine g_iadd d_M_told_19 ?_
      refine g_guard (fun hb2 => ?_)
      refine g_ild d_M_told_20 rfl hb2 rfl ?_
      refine g_iconst d_M_told_21 ?_
      refine m_icmp_ne d_M_told_22 (fun hJ3 => g_iconst d_M_told_29 hJ3) (fun hJ3 => g_iconst d_M_told_25 (g_goto d_M_told_26 hJ3)) ?_
      refine g_iadd d_M_told_30 ?_
      refine g_istore_n d_M_told_31 (by decide) ?_
      refine g_iinc d_M_told_32 (by decide) rfl ?_
      refine g_goto d_M_told_35 ?_
      exact ih _ _ _ _ _
def f_M_told (p1 p2 : Int32) (S : St) : Option (Int32 × St) := f_M_told_L5   200 p1 p2 0 0 S
set_option maxRecDepth 4000 in
theorem w_M_told {X : xC} {d : Nat}  (p1 p2 : Int32) (S : St) : SemG eI X k_M_told (d) 0 [some (.ref (xB X + 46)), some (.int p1), some (.int p2), none, none] [] S (f_M_told  p1 p2 S) := by
  unfold f_M_told
  refine g_iconst d_M_told_0 ?_
  refine g_istore_n d_M_told_1 (by decide) ?_
  refine g_iconst d_M_told_2 ?_
  refine g_istore d_M_told_3 (by decide) ?_
  exact w_M_told_L5 (X := X) (d := d) 200 _ _ _ _ _
def f_M_count (p1 : Int32) (S : St) : Option (Int32 × St) := (if p1 = 0 then some ((S 47 11), S) else (if p1 = 1 then ((f_M_told 52 10 S).bind fun q3 => some (q3.1, q3.2)) else (if p1 = 2 then ((f_M_told 62 10 S).bind fun q5 => some (q5.1, q5.2)) else (if p1 = 3 then some ((S 46 6), S) else (if p1 = 4 then some ((S 47 10), S) else (if p1 = 5 then ((f_M_allFirm S).bind fun q9 => some (q9.1, q9.2)) else ((f_M_finding 0 S).bind fun q10 => some (q10.1, q10.2))))))))
set_option maxRecDepth 4000 in
theorem w_M_count {X : xC} {d : Nat}  (p1 : Int32) (S : St) : SemG eI X k_M_count (d + 1) 0 [some (.ref (xB X + 46)), some (.int p1)] [] S (f_M_count  p1 S) := by
  unfold f_M_count
  refine g_iload_n d_M_count_0 rfl ?_
  refine g_ite (fun u1 => ?_) (fun u1 => ?_)
  · refine g_tcase (off := 39) (tgt := 40) d_M_count_1 u1 (by decide) ?_
    refine g_aload_n d_M_count_40 rfl ?_
    refine g_getR d_M_count_41 fl_M_7 rfl rfl ?_
    refine g_bipush d_M_count_44 ?_
    refine g_ild d_M_count_46 rfl il_11_92.1 il_11_92.2 ?_
    exact g_ireturn d_M_count_47 rfl rfl rfl
  refine g_ite (fun u2 => ?_) (fun u2 => ?_)
  · refine g_tcase (off := 47) (tgt := 48) d_M_count_1 u2 (by decide) ?_
    refine g_aload_n d_M_count_48 rfl ?_
    refine g_bipush d_M_count_49 ?_
    refine g_bipush d_M_count_51 ?_
    refine g_callV2I d_M_count_53 ml_M_240 vk_M_told rfl ⟨_, rfl, rfl⟩ rfl rfl (Nat.le_of_ble_eq_true rfl) (w_M_told (X := X) (d := d) _ _ _) (fun q3 => ?_)
    exact g_ireturn d_M_count_56 rfl rfl rfl
  refine g_ite (fun u4 => ?_) (fun u4 => ?_)
  · refine g_tcase (off := 56) (tgt := 57) d_M_count_1 u4 (by decide) ?_
    refine g_aload_n d_M_count_57 rfl ?_
    refine g_bipush d_M_count_58 ?_
    refine g_bipush d_M_count_60 ?_
    refine g_callV2I d_M_count_62 ml_M_240 vk_M_told rfl ⟨_, rfl, rfl⟩ rfl rfl (Nat.le_of_ble_eq_true rfl) (w_M_told (X := X) (d := d) _ _ _) (fun q5 => ?_)
    exact g_ireturn d_M_count_65 rfl rfl rfl
  refine g_ite (fun u6 => ?_) (fun u6 => ?_)
  · refine g_tcase (off := 65) (tgt := 66) d_M_count_1 u6 (by decide) ?_
    refine g_aload_n d_M_count_66 rfl ?_
    refine g_getI d_M_count_67 fl_M_136 rfl rfl ?_
    exact g_ireturn d_M_count_70 rfl rfl rfl
  refine g_ite (fun u7 => ?_) (fun u7 => ?_)
  · refine g_tcase (off := 70) (tgt := 71) d_M_count_1 u7 (by decide) ?_
    refine g_aload_n d_M_count_71 rfl ?_
    refine g_getR d_M_count_72 fl_M_7 rfl rfl ?_
    refine g_bipush d_M_count_75 ?_
    refine g_ild d_M_count_77 rfl il_10_92.1 il_10_92.2 ?_
    exact g_ireturn d_M_count_78 rfl rfl rfl
  refine g_ite (fun u8 => ?_) (fun u8 => ?_)
  · refine g_tcase (off := 78) (tgt := 79) d_M_count_1 u8 (by decide) ?_
    refine g_aload_n d_M_count_79 rfl ?_
    refine g_callV0I d_M_count_80 ml_M_89 vk_M_allFirm rfl ⟨_, rfl, rfl⟩ (Nat.le_of_ble_eq_true rfl) (w_M_allFirm (X := X) (d := d) _) (fun q9 => ?_)
    exact g_ireturn d_M_count_83 rfl rfl rfl
  have eu1 := ne32 (n := 0) u1 (by decide)
  have eu2 := ne32 (n := 1) u2 (by decide)
  have eu4 := ne32 (n := 2) u4 (by decide)
  have eu6 := ne32 (n := 3) u6 (by decide)
  have eu7 := ne32 (n := 4) u7 (by decide)
  have eu8 := ne32 (n := 5) u8 (by decide)
  refine g_tdef (tgt := 84) d_M_count_1 (by omega) (by decide) ?_
  refine g_aload_n d_M_count_84 rfl ?_
  refine g_iconst d_M_count_85 ?_
  refine g_callV1I d_M_count_86 ml_M_61 vk_M_finding rfl ⟨_, rfl, rfl⟩ rfl (Nat.le_of_ble_eq_true rfl) (w_M_finding (X := X) (d := d) _ _) (fun q10 => ?_)
  exact g_ireturn d_M_count_89 rfl rfl rfl
def f_M_status_L20 : Nat → Int32 → Int32 → Int32 → St → Option (Int32 × St)
  | 0, _, _, _, _ => none
  | n + 1, y1, y2, y3, S => (if 7 ≤ y3 then some (y2, S) else (if y1 = (-1) then (if inb y3 7 = true then let x6 : Int32 := (y2 + (S 50 (y3).toNatClampNeg)); f_M_status_L20   n y1 x6 (y3 + 1) S else none) else (if y1 = y3 then (if inb y3 7 = true then let x9 : Int32 := (y2 + (S 50 (y3).toNatClampNeg)); f_M_status_L20   n y1 x9 (y3 + 1) S else none) else f_M_status_L20   n y1 (y2 + 0) (y3 + 1) S)))
set_option maxRecDepth 4000 in
theorem w_M_status_L20 {X : xC} {d : Nat}   : ∀ (n : Nat) (y1 : Int32) (y2 : Int32) (y3 : Int32) (S : St), SemG eI X k_M_status (d + 1) 20 [some (.ref (xB X + 46)), some (.int y1), some (.int y2), some (.int y3)] [] S (f_M_status_L20   n y1 y2 y3 S) := by
  intro n
  induction n with
  | zero => intro _ _ _ _; exact g_none
  | succ n ih =>
    intro y1 y2 y3 S
    unfold f_M_status_L20
    refine g_iload_n d_M_status_20 rfl ?_
    refine g_bipush d_M_status_21 ?_
    refine s_icmp_ge d_M_status_23 (fun u3 => ?_) (fun u3 => ?_)
    · refine g_iload_n d_M_status_55 rfl ?_
      exact g_ireturn d_M_status_56 rfl rfl rfl
    · refine g_iload_n d_M_status_26 rfl ?_
      refine g_iload_n d_M_status_27 rfl ?_
      refine g_iconst d_M_status_28 ?_
      refine s_icmp_eq d_M_status_29 (fun u4 => ?_) (fun u4 => ?_)
      · refine g_aload_n d_M_status_37 rfl ?_
        refine g_getR d_M_status_38 fl_M_19 rfl rfl ?_
        refine g_iload_n d_M_status_41 rfl ?_
        refine g_guard (fun hb5 => ?_)
        refine g_ild d_M_status_42 rfl hb5 rfl ?_
        refine g_goto d_M_status_43 ?_
        refine g_iadd d_M_status_47 ?_
        refine g_istore_n d_M_status_48 (by decide) ?_
        refine g_iinc d_M_status_49 (by decide) rfl ?_
        refine g_goto d_M_status_52 ?_
        exact ih _ _ _ _
      · refine g_iload_n d_M_status_32 rfl ?_
        refine g_iload_n d_M_status_33 rfl ?_
        refine s_icmp_ne d_M_status_34 (fun u7 => ?_) (fun u7 => ?_)
        · refine g_iconst d_M_status_46 ?_
          refine g_iadd d_M_status_47 ?_
          refine g_istore_n d_M_status_48 (by decide) ?_
          refine g_iinc d_M_status_49 (by decide) rfl ?_
          refine g_goto d_M_status_52 ?_
          exact ih _ _ _ _
        · refine g_aload_n d_M_status_37 rfl ?_
          refine g_getR d_M_status_38 fl_M_19 rfl rfl ?_
          refine g_iload_n d_M_status_41 rfl ?_
          refine g_guard (fun hb8 => ?_)
          refine g_ild d_M_status_42 rfl hb8 rfl ?_
          refine g_goto d_M_status_43 ?_
          refine g_iadd d_M_status_47 ?_
          refine g_istore_n d_M_status_48 (by decide) ?_
          refine g_iinc d_M_status_49 (by decide) rfl ?_
          refine g_goto d_M_status_52 ?_
          exact ih _ _ _ _
def f_M_status (p1 : Int32) (S : St) : Option (Int32 × St) := ((f_M_in p1 (-1) 6 S).bind fun q1 => (if (bI q1.1) = 0 then ((f_M_finding 0 q1.2).bind fun q10 => some (q10.1, q10.2)) else f_M_status_L20   200 p1 0 0 q1.2))
set_option maxRecDepth 4000 in
theorem w_M_status {X : xC} {d : Nat}  (p1 : Int32) (S : St) : SemG eI X k_M_status (d + 1) 0 [some (.ref (xB X + 46)), some (.int p1), none, none] [] S (f_M_status  p1 S) := by
  unfold f_M_status
  refine g_iload_n d_M_status_0 rfl ?_
  refine g_iconst d_M_status_1 ?_
  refine g_bipush d_M_status_2 ?_
  refine g_callS3B d_M_status_4 ml_M_45 sk_M_in rfl rfl rfl (Nat.le_of_ble_eq_true rfl) (w_M_in (X := X) (d := d) _ _ _ _) (fun q1 => ?_)
  refine s_if_ne d_M_status_7 (fun u2 => ?_) (fun u2 => ?_)
  · refine g_iconst d_M_status_16 ?_
    refine g_istore_n d_M_status_17 (by decide) ?_
    refine g_iconst d_M_status_18 ?_
    refine g_istore_n d_M_status_19 (by decide) ?_
    exact w_M_status_L20 (X := X) (d := d) 200 _ _ _ _
  · refine g_aload_n d_M_status_10 rfl ?_
    refine g_iconst d_M_status_11 ?_
    refine g_callV1I d_M_status_12 ml_M_61 vk_M_finding rfl ⟨_, rfl, rfl⟩ rfl (Nat.le_of_ble_eq_true rfl) (w_M_finding (X := X) (d := d) _ _) (fun q10 => ?_)
    exact g_ireturn d_M_status_15 rfl rfl rfl
