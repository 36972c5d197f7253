def f_P_endOfRun_L7 : Nat → Int32 → Int32 → Int32 → Int32 → St → Option (Int32 × St)
  | 0, _, _, _, _, _ => none
  | n + 1, y1, y2, y3, y4, S => (if (S 34 1) ≤ y4 then some (y4, S) else (if 120 ≤ y4 then some (y4, S) else (if inb y4 120 = true then (if (S 35 (y4).toNatClampNeg) < y2 then some (y4, S) else (if y3 < (S 35 (y4).toNatClampNeg) then some (y4, S) else f_P_endOfRun_L7   n y1 y2 y3 (y4 + 1) S)) else none)))
set_option maxRecDepth 4000 in
theorem w_P_endOfRun_L7 {X : xC} {d : Nat}   : ∀ (n : Nat) (y1 : Int32) (y2 : Int32) (y3 : Int32) (y4 : Int32) (S : St), SemG eI X k_P_endOfRun (d + 1) 7 [some (.ref (xB X + 34)), some (.int y1), some (.int y2), some (.int y3), some (.int y4)] [] S (f_P_endOfRun_L7   n y1 y2 y3 y4 S) := by
  intro n
  induction n with
  | zero => intro _ _ _ _ _; exact g_none
  | succ n ih =>
    intro y1 y2 y3 y4 S
    unfold f_P_endOfRun_L7
    refine g_iload d_P_endOfRun_7 rfl ?_
    refine g_aload_n d_P_endOfRun_9 rfl ?_
    refine g_getI d_P_endOfRun_10 fl_P_15 rfl rfl ?_
    refine s_icmp_ge d_P_endOfRun_13 (fun u2 => ?_) (fun u2 => ?_)
    · refine g_iload d_P_endOfRun_51 rfl ?_
      exact g_ireturn d_P_endOfRun_53 rfl rfl rfl
    · refine g_iload d_P_endOfRun_16 rfl ?_
      refine g_bipush d_P_endOfRun_18 ?_
      refine s_icmp_ge d_P_endOfRun_20 (fun u3 => ?_) (fun u3 => ?_)
      · refine g_iload d_P_endOfRun_51 rfl ?_
        exact g_ireturn d_P_endOfRun_53 rfl rfl rfl
      · refine g_aload_n d_P_endOfRun_23 rfl ?_
        refine g_getR d_P_endOfRun_24 fl_P_9 rfl rfl ?_
        refine g_iload d_P_endOfRun_27 rfl ?_
        refine g_guard (fun hb4 => ?_)
        refine g_ild d_P_endOfRun_29 rfl hb4 rfl ?_
        refine g_iload_n d_P_endOfRun_30 rfl ?_
        refine s_icmp_lt d_P_endOfRun_31 (fun u5 => ?_) (fun u5 => ?_)
        · refine g_iload d_P_endOfRun_51 rfl ?_
          exact g_ireturn d_P_endOfRun_53 rfl rfl rfl
        · refine g_aload_n d_P_endOfRun_34 rfl ?_
          refine g_getR d_P_endOfRun_35 fl_P_9 rfl rfl ?_
          refine g_iload d_P_endOfRun_38 rfl ?_
          refine g_ild d_P_endOfRun_40 rfl hb4 rfl ?_
          refine g_iload_n d_P_endOfRun_41 rfl ?_
          refine s_icmp_gt d_P_endOfRun_42 (fun u6 => ?_) (fun u6 => ?_)
          · refine g_iload d_P_endOfRun_51 rfl ?_
            exact g_ireturn d_P_endOfRun_53 rfl rfl rfl
          · refine g_iinc d_P_endOfRun_45 (by decide) rfl ?_
            refine g_goto d_P_endOfRun_48 ?_
            exact ih _ _ _ _ _
def f_P_endOfRun (p1 p2 p3 : Int32) (S : St) : Option (Int32 × St) := let x1 : Int32 := (if 0 < p1 then p1 else 0); f_P_endOfRun_L7   200 p1 p2 p3 x1 S
set_option maxRecDepth 4000 in
theorem w_P_endOfRun {X : xC} {d : Nat}  (p1 p2 p3 : Int32) (S : St) : SemG eI X k_P_endOfRun (d + 1) 0 [some (.ref (xB X + 34)), some (.int p1), some (.int p2), some (.int p3), none] [] S (f_P_endOfRun  p1 p2 p3 S) := by
  unfold f_P_endOfRun
  refine g_iconst d_P_endOfRun_0 ?_
  refine g_iload_n d_P_endOfRun_1 rfl ?_
  refine g_mmax d_P_endOfRun_2 ml_P_91 (Nat.le_of_ble_eq_true rfl) ?_
  refine g_istore d_P_endOfRun_5 (by decide) ?_
  exact w_P_endOfRun_L7 (X := X) (d := d) 200 _ _ _ _ _
def f_P_numberRead_L7 : Nat → Int32 → Int32 → St → Option (Int32 × St)
  | 0, _, _, _ => none
  | n + 1, y1, y2, S => (if (S 34 4) ≤ y2 then some (y1, S) else (if inb y2 120 = true then let x3 : Int32 := (if (((y1 * 10) + (S 35 (y2).toNatClampNeg)) - 48) < 10000 then (((y1 * 10) + (S 35 (y2).toNatClampNeg)) - 48) else 10000); f_P_numberRead_L7   n x3 (y2 + 1) S else none))
set_option maxRecDepth 4000 in
theorem w_P_numberRead_L7 {X : xC} {d : Nat}   : ∀ (n : Nat) (y1 : Int32) (y2 : Int32) (S : St), SemG eI X k_P_numberRead (d + 1) 7 [some (.ref (xB X + 34)), some (.int y1), some (.int y2)] [] S (f_P_numberRead_L7   n y1 y2 S) := by
  intro n
  induction n with
  | zero => intro _ _ _; exact g_none
  | succ n ih =>
    intro y1 y2 S
    unfold f_P_numberRead_L7
    refine g_iload_n d_P_numberRead_7 rfl ?_
    refine g_aload_n d_P_numberRead_8 rfl ?_
    refine g_getI d_P_numberRead_9 fl_P_19 rfl rfl ?_
    refine s_icmp_ge d_P_numberRead_12 (fun u1 => ?_) (fun u1 => ?_)
    · refine g_iload_n d_P_numberRead_42 rfl ?_
      exact g_ireturn d_P_numberRead_43 rfl rfl rfl
    · refine g_sipush d_P_numberRead_15 ?_
      refine g_iload_n d_P_numberRead_18 rfl ?_
      refine g_bipush d_P_numberRead_19 ?_
      refine g_imul d_P_numberRead_21 ?_
      refine g_aload_n d_P_numberRead_22 rfl ?_
      refine g_getR d_P_numberRead_23 fl_P_9 rfl rfl ?_
      refine g_iload_n d_P_numberRead_26 rfl ?_
      refine g_guard (fun hb2 => ?_)
      refine g_ild d_P_numberRead_27 rfl hb2 rfl ?_
      refine g_iadd d_P_numberRead_28 ?_
      refine g_bipush d_P_numberRead_29 ?_
      refine g_isub d_P_numberRead_31 ?_
      refine g_mmin d_P_numberRead_32 ml_P_97 (Nat.le_of_ble_eq_true rfl) ?_
      refine g_istore_n d_P_numberRead_35 (by decide) ?_
      refine g_iinc d_P_numberRead_36 (by decide) rfl ?_
      refine g_goto d_P_numberRead_39 ?_
      exact ih _ _ _
def f_P_numberRead (S : St) : Option (Int32 × St) := f_P_numberRead_L7   200 0 (S 34 3) S
set_option maxRecDepth 4000 in
theorem w_P_numberRead {X : xC} {d : Nat}  (S : St) : SemG eI X k_P_numberRead (d + 1) 0 [some (.ref (xB X + 34)), none, none] [] S (f_P_numberRead   S) := by
  unfold f_P_numberRead
  refine g_iconst d_P_numberRead_0 ?_
  refine g_istore_n d_P_numberRead_1 (by decide) ?_
  refine g_aload_n d_P_numberRead_2 rfl ?_
  refine g_getI d_P_numberRead_3 fl_P_29 rfl rfl ?_
  refine g_istore_n d_P_numberRead_6 (by decide) ?_
  exact w_P_numberRead_L7 (X := X) (d := d) 200 _ _ _
def f_P_step (S : St) : Option (St) := ((f_P_endOfRun (S 34 4) 32 32 S).bind fun q1 => let S2 := put q1.2 34 3 q1.1; let S3 := put S2 34 4 (S2 34 3); (if (S3 34 1) ≤ (S3 34 3) then let S5 := put S3 34 2 0; some S5 else (if (S3 34 3) < 120 then (if inb (S3 34 3) 120 = true then let x8 : Int32 := (S3 35 ((S3 34 3)).toNatClampNeg); (if x8 < 97 then (if x8 < 48 then let x14 : Int32 := (if x8 = 59 then 3 else 4); let S15 := put S3 34 2 x14; let S16 := put S15 34 4 ((S15 34 3) + 1); some S16 else (if 57 < x8 then let x20 : Int32 := (if x8 = 59 then 3 else 4); let S21 := put S3 34 2 x20; let S22 := put S21 34 4 ((S21 34 3) + 1); some S22 else let S23 := put S3 34 2 2; ((f_P_endOfRun (S23 34 3) 48 57 S23).bind fun q24 => let S25 := put q24.2 34 4 q24.1; ((f_P_numberRead S25).bind fun q26 => let S27 := put q26.2 34 5 q26.1; some S27)))) else (if 122 < x8 then (if x8 < 48 then let x33 : Int32 := (if x8 = 59 then 3 else 4); let S34 := put S3 34 2 x33; let S35 := put S34 34 4 ((S34 34 3) + 1); some S35 else (if 57 < x8 then let x39 : Int32 := (if x8 = 59 then 3 else 4); let S40 := put S3 34 2 x39; let S41 := put S40 34 4 ((S40 34 3) + 1); some S41 else let S42 := put S3 34 2 2; ((f_P_endOfRun (S42 34 3) 48 57 S42).bind fun q43 => let S44 := put q43.2 34 4 q43.1; ((f_P_numberRead S44).bind fun q45 => let S46 := put q45.2 34 5 q45.1; some S46)))) else let S47 := put S3 34 2 1; ((f_P_endOfRun (S47 34 3) 97 122 S47).bind fun q48 => let S49 := put q48.2 34 4 q48.1; some S49))) else none) else let S50 := put S3 34 2 0; some S50)))
set_option maxRecDepth 4000 in
theorem w_P_step {X : xC} {d : Nat}  (S : St) : SemG eV X k_P_step (d + 2) 0 [some (.ref (xB X + 34)), none] [] S (f_P_step   S) := by
  unfold f_P_step
  refine g_aload_n d_P_step_0 rfl ?_
  refine g_aload_n d_P_step_1 rfl ?_
  refine g_aload_n d_P_step_2 rfl ?_
  refine g_getI d_P_step_3 fl_P_19 rfl rfl ?_
  refine g_bipush d_P_step_6 ?_
  refine g_bipush d_P_step_8 ?_
  refine g_callV3I d_P_step_10 ml_P_84 vk_P_endOfRun rfl ⟨_, rfl, rfl⟩ rfl rfl rfl (Nat.le_of_ble_eq_true rfl) (w_P_endOfRun (X := X) (d := d) _ _ _ _) (fun q1 => ?_)
  refine g_putI d_P_step_13 fl_P_29 ⟨_, rfl, rfl⟩ rfl rfl rfl rfl ?_
  refine g_aload_n d_P_step_16 rfl ?_
  refine g_aload_n d_P_step_17 rfl ?_
  refine g_getI d_P_step_18 fl_P_29 rfl rfl ?_
  refine g_putI d_P_step_21 fl_P_19 ⟨_, rfl, rfl⟩ rfl rfl rfl rfl ?_
  refine g_aload_n d_P_step_24 rfl ?_
  refine g_getI d_P_step_25 fl_P_29 rfl rfl ?_
  refine g_aload_n d_P_step_28 rfl ?_
  refine g_getI d_P_step_29 fl_P_15 rfl rfl ?_
  refine s_icmp_ge d_P_step_32 (fun u4 => ?_) (fun u4 => ?_)
  · refine g_aload_n d_P_step_44 rfl ?_
    refine g_iconst d_P_step_45 ?_
    refine g_putI d_P_step_46 fl_P_32 ⟨_, rfl, rfl⟩ rfl rfl rfl rfl ?_
    exact g_return d_P_step_49 rfl rfl
  · refine g_aload_n d_P_step_35 rfl ?_
    refine g_getI d_P_step_36 fl_P_29 rfl rfl ?_
    refine g_bipush d_P_step_39 ?_
    refine s_icmp_lt d_P_step_41 (fun u6 => ?_) (fun u6 => ?_)
    · refine g_aload_n d_P_step_50 rfl ?_
      refine g_getR d_P_step_51 fl_P_9 rfl rfl ?_
      refine g_aload_n d_P_step_54 rfl ?_
      refine g_getI d_P_step_55 fl_P_29 rfl rfl ?_
      refine g_guard (fun hb7 => ?_)
      refine g_ild d_P_step_58 rfl hb7 rfl ?_
      refine g_istore_n d_P_step_59 (by decide) ?_
      refine g_iload_n d_P_step_60 rfl ?_
      refine g_bipush d_P_step_61 ?_
      refine s_icmp_lt d_P_step_63 (fun u10 => ?_) (fun u10 => ?_)
      · refine g_iload_n d_P_step_96 rfl ?_
        refine g_bipush d_P_step_97 ?_
        refine s_icmp_lt d_P_step_99 (fun u12 => ?_) (fun u12 => ?_)
        · refine g_aload_n d_P_step_140 rfl ?_
          refine g_iload_n d_P_step_141 rfl ?_
          refine g_bipush d_P_step_142 ?_
          refine m_icmp_ne d_P_step_144 (fun hJ13 => g_iconst d_P_step_151 hJ13) (fun hJ13 => g_iconst d_P_step_147 (g_goto d_P_step_148 hJ13)) ?_
          refine g_putI d_P_step_152 fl_P_32 ⟨_, rfl, rfl⟩ rfl rfl rfl rfl ?_
          refine g_aload_n d_P_step_155 rfl ?_
          refine g_aload_n d_P_step_156 rfl ?_
          refine g_getI d_P_step_157 fl_P_29 rfl rfl ?_
          refine g_iconst d_P_step_160 ?_
          refine g_iadd d_P_step_161 ?_
          refine g_putI d_P_step_162 fl_P_19 ⟨_, rfl, rfl⟩ rfl rfl rfl rfl ?_
          exact g_return d_P_step_165 rfl rfl
        · refine g_iload_n d_P_step_102 rfl ?_
          refine g_bipush d_P_step_103 ?_
          refine s_icmp_gt d_P_step_105 (fun u18 => ?_) (fun u18 => ?_)
          · refine g_aload_n d_P_step_140 rfl ?_
            refine g_iload_n d_P_step_141 rfl ?_
            refine g_bipush d_P_step_142 ?_
            refine m_icmp_ne d_P_step_144 (fun hJ19 => g_iconst d_P_step_151 hJ19) (fun hJ19 => g_iconst d_P_step_147 (g_goto d_P_step_148 hJ19)) ?_
            refine g_putI d_P_step_152 fl_P_32 ⟨_, rfl, rfl⟩ rfl rfl rfl rfl ?_
            refine g_aload_n d_P_step_155 rfl ?_
            refine g_aload_n d_P_step_156 rfl ?_
            refine g_getI d_P_step_157 fl_P_29 rfl rfl ?_
            refine g_iconst d_P_step_160 ?_
            refine g_iadd d_P_step_161 ?_
            refine g_putI d_P_step_162 fl_P_19 ⟨_, rfl, rfl⟩ rfl rfl rfl rfl ?_
            exact g_return d_P_step_165 rfl rfl
          · refine g_aload_n d_P_step_108 rfl ?_
            refine g_iconst d_P_step_109 ?_
            refine g_putI d_P_step_110 fl_P_32 ⟨_, rfl, rfl⟩ rfl rfl rfl rfl ?_
            refine g_aload_n d_P_step_113 rfl ?_
            refine g_aload_n d_P_step_114 rfl ?_
            refine g_aload_n d_P_step_115 rfl ?_
            refine g_getI d_P_step_116 fl_P_29 rfl rfl ?_
            refine g_bipush d_P_step_119 ?_
            refine g_bipush d_P_step_121 ?_
            refine g_callV3I d_P_step_123 ml_P_84 vk_P_endOfRun rfl ⟨_, rfl, rfl⟩ rfl rfl rfl (Nat.le_of_ble_eq_true rfl) (w_P_endOfRun (X := X) (d := d) _ _ _ _) (fun q24 => ?_)
            refine g_putI d_P_step_126 fl_P_19 ⟨_, rfl, rfl⟩ rfl rfl rfl rfl ?_
            refine g_aload_n d_P_step_129 rfl ?_
            refine g_aload_n d_P_step_130 rfl ?_
            refine g_callV0I d_P_step_131 ml_P_88 vk_P_numberRead rfl ⟨_, rfl, rfl⟩ (Nat.le_of_ble_eq_true rfl) (w_P_numberRead (X := X) (d := d) _) (fun q26 => ?_)
            refine g_putI d_P_step_134 fl_P_55 ⟨_, rfl, rfl⟩ rfl rfl rfl rfl ?_
            refine g_goto d_P_step_137 ?_
            exact g_return d_P_step_165 rfl rfl
      · refine g_iload_n d_P_step_66 rfl ?_
        refine g_bipush d_P_step_67 ?_
        refine s_icmp_gt d_P_step_69 (fun u29 => ?_) (fun u29 => ?_)
        · refine g_iload_n d_P_step_96 rfl ?_
          refine g_bipush d_P_step_97 ?_
          refine s_icmp_lt d_P_step_99 (fun u31 => ?_) (fun u31 => ?_)
          · refine g_aload_n d_P_step_140 rfl ?_
            refine g_iload_n d_P_step_141 rfl ?_
            refine g_bipush d_P_step_142 ?_
            refine m_icmp_ne d_P_step_144 (fun hJ32 => g_iconst d_P_step_151 hJ32) (fun hJ32 => g_iconst d_P_step_147 (g_goto d_P_step_148 hJ32)) ?_
            refine g_putI d_P_step_152 fl_P_32 ⟨_, rfl, rfl⟩ rfl rfl rfl rfl ?_
            refine g_aload_n d_P_step_155 rfl ?_
            refine g_aload_n d_P_step_156 rfl ?_
            refine g_getI d_P_step_157 fl_P_29 rfl rfl ?_
            refine g_iconst d_P_step_160 ?_
            refine g_iadd d_P_step_161 ?_
            refine g_putI d_P_step_162 fl_P_19 ⟨_, rfl, rfl⟩ rfl rfl rfl rfl ?_
            exact g_return d_P_step_165 rfl rfl
          · refine g_iload_n d_P_step_102 rfl ?_
            refine g_bipush d_P_step_103 ?_
            refine s_icmp_gt d_P_step_105 (fun u37 => ?_) (fun u37 => ?_)
            · refine g_aload_n d_P_step_140 rfl ?_
              refine g_iload_n d_P_step_141 rfl ?_
              refine g_bipush d_P_step_142 ?_
              refine m_icmp_ne d_P_step_144 (fun hJ38 => g_iconst d_P_step_151 hJ38) (fun hJ38 => g_iconst d_P_step_147 (g_goto d_P_step_148 hJ38)) ?_
              refine g_putI d_P_step_152 fl_P_32 ⟨_, rfl, rfl⟩ rfl rfl rfl rfl ?_
              refine g_aload_n d_P_step_155 rfl ?_
              refine g_aload_n d_P_step_156 rfl ?_
              refine g_getI d_P_step_157 fl_P_29 rfl rfl ?_
              refine g_iconst d_P_step_160 ?_
              refine g_iadd d_P_step_161 ?_
              refine g_putI d_P_step_162 fl_P_19 ⟨_, rfl, rfl⟩ rfl rfl rfl rfl ?_
              exact g_return d_P_step_165 rfl rfl
            · refine g_aload_n d_P_step_108 rfl ?_
              refine g_iconst d_P_step_109 ?_
              refine g_putI d_P_step_110 fl_P_32 ⟨_, rfl, rfl⟩ rfl rfl rfl rfl ?_
              refine g_aload_n d_P_step_113 rfl ?_
              refine g_aload_n d_P_step_114 rfl ?_
              refine g_aload_n d_P_step_115 rfl ?_
              refine g_getI d_P_step_116 fl_P_29 rfl rfl ?_
              refine g_bipush d_P_step_119 ?_
              refine g_bipush d_P_step_121 ?_
              refine g_callV3I d_P_step_123 ml_P_84 vk_P_endOfRun rfl ⟨_, rfl, rfl⟩ rfl rfl rfl (Nat.le_of_ble_eq_true rfl) (w_P_endOfRun (X := X) (d := d) _ _ _ _) (fun q43 => ?_)
              refine g_putI d_P_step_126 fl_P_19 ⟨_, rfl, rfl⟩ rfl rfl rfl rfl ?_
              refine g_aload_n d_P_step_129 rfl ?_
              refine g_aload_n d_P_step_130 rfl ?_
              refine g_callV0I d_P_step_131 ml_P_88 vk_P_numberRead rfl ⟨_, rfl, rfl⟩ (Nat.le_of_ble_eq_true rfl) (w_P_numberRead (X := X) (d := d) _) (fun q45 => ?_)
              refine g_putI d_P_step_134 fl_P_55 ⟨_, rfl, rfl⟩ rfl rfl rfl rfl ?_
              refine g_goto d_P_step_137 ?_
              exact g_return d_P_step_165 rfl rfl
        · refine g_aload_n d_P_step_72 rfl ?_
          refine g_iconst d_P_step_73 ?_
          refine g_putI d_P_step_74 fl_P_32 ⟨_, rfl, rfl⟩ rfl rfl rfl rfl ?_
          refine g_aload_n d_P_step_77 rfl ?_
          refine g_aload_n d_P_step_78 rfl ?_
          refine g_aload_n d_P_step_79 rfl ?_
          refine g_getI d_P_step_80 fl_P_29 rfl rfl ?_
          refine g_bipush d_P_step_83 ?_
          refine g_bipush d_P_step_85 ?_
          refine g_callV3I d_P_step_87 ml_P_84 vk_P_endOfRun rfl ⟨_, rfl, rfl⟩ rfl rfl rfl (Nat.le_of_ble_eq_true rfl) (w_P_endOfRun (X := X) (d := d) _ _ _ _) (fun q48 => ?_)
          refine g_putI d_P_step_90 fl_P_19 ⟨_, rfl, rfl⟩ rfl rfl rfl rfl ?_
          refine g_goto d_P_step_93 ?_
          exact g_return d_P_step_165 rfl rfl
    · refine g_aload_n d_P_step_44 rfl ?_
      refine g_iconst d_P_step_45 ?_
      refine g_putI d_P_step_46 fl_P_32 ⟨_, rfl, rfl⟩ rfl rfl rfl rfl ?_
      exact g_return d_P_step_49 rfl rfl
def f_P_wordOf (p1 : Int32) (S : St) : Option (Nat × St) := (if p1 = 0 then some (0, S) else (if p1 = 1 then some (1, S) else (if p1 = 2 then some (2, S) else (if p1 = 3 then some (3, S) else (if p1 = 4 then some (4, S) else (if p1 = 5 then some (5, S) else (if p1 = 6 then some (6, S) else (if p1 = 7 then some (7, S) else (if p1 = 8 then some (8, S) else (if p1 = 9 then some (9, S) else (if p1 = 10 then some (10, S) else (if p1 = 11 then some (11, S) else (if p1 = 12 then some (12, S) else some (13, S))))))))))))))
set_option maxRecDepth 4000 in
theorem w_P_wordOf {X : xC} {d : Nat} {sA : Nat → Nat} (hs : XTxt X sA)  (p1 : Int32) (S : St) : SemG (eW sA) X k_P_wordOf (d) 0 [some (.int p1)] [] S (f_P_wordOf  p1 S) := by
  unfold f_P_wordOf
  refine g_iload_n d_P_wordOf_0 rfl ?_
  refine g_ite (fun u1 => ?_) (fun u1 => ?_)
  · refine g_tcase (off := 67) (tgt := 68) d_P_wordOf_1 u1 (by decide) ?_
    refine g_ldcS d_P_wordOf_68 hs st_P_116 ?_
    exact g_wreturn d_P_wordOf_70 rfl rfl
  refine g_ite (fun u2 => ?_) (fun u2 => ?_)
  · refine g_tcase (off := 70) (tgt := 71) d_P_wordOf_1 u2 (by decide) ?_
    refine g_ldcS d_P_wordOf_71 hs st_P_118 ?_
    exact g_wreturn d_P_wordOf_73 rfl rfl
  refine g_ite (fun u3 => ?_) (fun u3 => ?_)
  · refine g_tcase (off := 73) (tgt := 74) d_P_wordOf_1 u3 (by decide) ?_
    refine g_ldcS d_P_wordOf_74 hs st_P_120 ?_
    exact g_wreturn d_P_wordOf_76 rfl rfl
  refine g_ite (fun u4 => ?_) (fun u4 => ?_)
  · refine g_tcase (off := 76) (tgt := 77) d_P_wordOf_1 u4 (by decide) ?_
    refine g_ldcS d_P_wordOf_77 hs st_P_122 ?_
    exact g_wreturn d_P_wordOf_79 rfl rfl
  refine g_ite (fun u5 => ?_) (fun u5 => ?_)
  · refine g_tcase (off := 79) (tgt := 80) d_P_wordOf_1 u5 (by decide) ?_
    refine g_ldcS d_P_wordOf_80 hs st_P_124 ?_
    exact g_wreturn d_P_wordOf_82 rfl rfl
  refine g_ite (fun u6 => ?_) (fun u6 => ?_)
  · refine g_tcase (off := 82) (tgt := 83) d_P_wordOf_1 u6 (by decide) ?_
    refine g_ldcS d_P_wordOf_83 hs st_P_126 ?_
    exact g_wreturn d_P_wordOf_85 rfl rfl
  refine g_ite (fun u7 => ?_) (fun u7 => ?_)
  · refine g_tcase (off := 85) (tgt := 86) d_P_wordOf_1 u7 (by decide) ?_
    refine g_ldcS d_P_wordOf_86 hs st_P_128 ?_
    exact g_wreturn d_P_wordOf_88 rfl rfl
  refine g_ite (fun u8 => ?_) (fun u8 => ?_)
  · refine g_tcase (off := 88) (tgt := 89) d_P_wordOf_1 u8 (by decide) ?_
    refine g_ldcS d_P_wordOf_89 hs st_P_130 ?_
    exact g_wreturn d_P_wordOf_91 rfl rfl
  refine g_ite (fun u9 => ?_) (fun u9 => ?_)
  · refine g_tcase (off := 91) (tgt := 92) d_P_wordOf_1 u9 (by decide) ?_
    refine g_ldcS d_P_wordOf_92 hs st_P_132 ?_
    exact g_wreturn d_P_wordOf_94 rfl rfl
  refine g_ite (fun u10 => ?_) (fun u10 => ?_)
  · refine g_tcase (off := 94) (tgt := 95) d_P_wordOf_1 u10 (by decide) ?_
    refine g_ldcS d_P_wordOf_95 hs st_P_134 ?_
    exact g_wreturn d_P_wordOf_97 rfl rfl
  refine g_ite (fun u11 => ?_) (fun u11 => ?_)
  · refine g_tcase (off := 97) (tgt := 98) d_P_wordOf_1 u11 (by decide) ?_
    refine g_ldcS d_P_wordOf_98 hs st_P_136 ?_
    exact g_wreturn d_P_wordOf_100 rfl rfl
  refine g_ite (fun u12 => ?_) (fun u12 => ?_)
  · refine g_tcase (off := 100) (tgt := 101) d_P_wordOf_1 u12 (by decide) ?_
    refine g_ldcS d_P_wordOf_101 hs st_P_138 ?_
    exact g_wreturn d_P_wordOf_103 rfl rfl
  refine g_ite (fun u13 => ?_) (fun u13 => ?_)
  · refine g_tcase (off := 103) (tgt := 104) d_P_wordOf_1 u13 (by decide) ?_
    refine g_ldcS d_P_wordOf_104 hs st_P_140 ?_
    exact g_wreturn d_P_wordOf_106 rfl rfl
  have eu1 := ne32 (n := 0) u1 (by decide)
  have eu2 := ne32 (n := 1) u2 (by decide)
  have eu3 := ne32 (n := 2) u3 (by decide)
  have eu4 := ne32 (n := 3) u4 (by decide)
  have eu5 := ne32 (n := 4) u5 (by decide)
  have eu6 := ne32 (n := 5) u6 (by decide)
  have eu7 := ne32 (n := 6) u7 (by decide)
  have eu8 := ne32 (n := 7) u8 (by decide)
  have eu9 := ne32 (n := 8) u9 (by decide)
  have eu10 := ne32 (n := 9) u10 (by decide)
  have eu11 := ne32 (n := 10) u11 (by decide)
  have eu12 := ne32 (n := 11) u12 (by decide)
  have eu13 := ne32 (n := 12) u13 (by decide)
  refine g_tdef (tgt := 107) d_P_wordOf_1 (by omega) (by decide) ?_
  refine g_ldcS d_P_wordOf_107 hs st_P_142 ?_
  exact g_wreturn d_P_wordOf_109 rfl rfl
def f_P_spells_L20 (w : Nat) : Nat → Int32 → St → Option (Bool × St)
  | 0, _, _ => none
  | n + 1, y2, S => (if (wl w) ≤ y2 then some (true, S) else (if inb ((S 34 3) + y2) 120 = true then (if inb y2 (wn w) = true then (if (S 35 (((S 34 3) + y2)).toNatClampNeg) = (wc w (y2).toNatClampNeg) then f_P_spells_L20 w  n (y2 + 1) S else some (false, S)) else none) else none))
set_option maxRecDepth 4000 in
theorem w_P_spells_L20 {X : xC} {d : Nat} {sA : Nat → Nat} (hs : XTxt X sA) {w : Nat} (hw : w < 14)  : ∀ (n : Nat) (y2 : Int32) (S : St), SemG eB X k_P_spells (d + 4) 20 [some (.ref (xB X + 34)), some (.ref (sA w)), some (.int y2)] [] S (f_P_spells_L20 w  n y2 S) := by
  intro n
  induction n with
  | zero => intro _ _; exact g_none
  | succ n ih =>
    intro y2 S
    unfold f_P_spells_L20
    refine g_iload_n d_P_spells_20 rfl ?_
    refine g_aload_n d_P_spells_21 rfl ?_
    refine g_strlen d_P_spells_22 ml_P_108 hs (Nat.le_of_ble_eq_true rfl) hw ?_
    refine s_icmp_ge d_P_spells_25 (fun u2 => ?_) (fun u2 => ?_)
    · refine g_iconst d_P_spells_55 ?_
      refine g_zreturn d_P_spells_56 rfl ?_ rfl
      rfl
    · refine g_aload_n d_P_spells_28 rfl ?_
      refine g_getR d_P_spells_29 fl_P_9 rfl rfl ?_
      refine g_aload_n d_P_spells_32 rfl ?_
      refine g_getI d_P_spells_33 fl_P_29 rfl rfl ?_
      refine g_iload_n d_P_spells_36 rfl ?_
      refine g_iadd d_P_spells_37 ?_
      refine g_guard (fun hb3 => ?_)
      refine g_ild d_P_spells_38 rfl hb3 rfl ?_
      refine g_aload_n d_P_spells_39 rfl ?_
      refine g_iload_n d_P_spells_40 rfl ?_
      refine g_guard (fun hb4 => ?_)
      refine g_charAt d_P_spells_41 ml_P_112 hs (Nat.le_of_ble_eq_true rfl) hw hb4 ?_
      refine s_icmp_eq d_P_spells_44 (fun u5 => ?_) (fun u5 => ?_)
      · refine g_iinc d_P_spells_49 (by decide) rfl ?_
        refine g_goto d_P_spells_52 ?_
        exact ih _ _
      · refine g_iconst d_P_spells_47 ?_
        refine g_zreturn d_P_spells_48 rfl ?_ rfl
        rfl
def f_P_spells (w : Nat) (S : St) : Option (Bool × St) := (if (wl w) = ((S 34 4) - (S 34 3)) then f_P_spells_L20 w  200 0 S else some (false, S))
set_option maxRecDepth 4000 in
theorem w_P_spells {X : xC} {d : Nat} {sA : Nat → Nat} (hs : XTxt X sA) {w : Nat} (hw : w < 14) (S : St) : SemG eB X k_P_spells (d + 4) 0 [some (.ref (xB X + 34)), some (.ref (sA w)), none] [] S (f_P_spells w  S) := by
  unfold f_P_spells
  refine g_aload_n d_P_spells_0 rfl ?_
  refine g_strlen d_P_spells_1 ml_P_108 hs (Nat.le_of_ble_eq_true rfl) hw ?_
  refine g_aload_n d_P_spells_4 rfl ?_
  refine g_getI d_P_spells_5 fl_P_19 rfl rfl ?_
  refine g_aload_n d_P_spells_8 rfl ?_
  refine g_getI d_P_spells_9 fl_P_29 rfl rfl ?_
  refine g_isub d_P_spells_12 ?_
  refine s_icmp_eq d_P_spells_13 (fun u1 => ?_) (fun u1 => ?_)
  · refine g_iconst d_P_spells_18 ?_
    refine g_istore_n d_P_spells_19 (by decide) ?_
    exact w_P_spells_L20 (X := X) (d := d) hs hw 200 _ _
  · refine g_iconst d_P_spells_16 ?_
    refine g_zreturn d_P_spells_17 rfl ?_ rfl
    rfl
def f_P_wordRead_L2 : Nat → Int32 → St → Option (Int32 × St)
  | 0, _, _ => none
  | n + 1, y1, S => (if 14 ≤ y1 then some ((-1), S) else ((f_P_wordOf y1 S).bind fun q2 => (if decide (q2.1 < 14) = true then ((f_P_spells q2.1 q2.2).bind fun q4 => (if (bI q4.1) = 0 then f_P_wordRead_L2   n (y1 + 1) q4.2 else some (y1, q4.2))) else none)))
set_option maxRecDepth 4000 in
theorem w_P_wordRead_L2 {X : xC} {d : Nat} {sA : Nat → Nat} (hs : XTxt X sA)   : ∀ (n : Nat) (y1 : Int32) (S : St), SemG eI X k_P_wordRead (d + 5) 2 [some (.ref (xB X + 34)), some (.int y1)] [] S (f_P_wordRead_L2   n y1 S) := by
  intro n
  induction n with
  | zero => intro _ _; exact g_none
  | succ n ih =>
    intro y1 S
    unfold f_P_wordRead_L2
    refine g_iload_n d_P_wordRead_2 rfl ?_
    refine g_bipush d_P_wordRead_3 ?_
    refine s_icmp_ge d_P_wordRead_5 (fun u1 => ?_) (fun u1 => ?_)
    · refine g_iconst d_P_wordRead_27 ?_
      exact g_ireturn d_P_wordRead_28 rfl rfl rfl
    · refine g_aload_n d_P_wordRead_8 rfl ?_
      refine g_iload_n d_P_wordRead_9 rfl ?_
      refine g_callS1W d_P_wordRead_10 ml_P_100 sk_P_wordOf rfl (Nat.le_of_ble_eq_true rfl) (w_P_wordOf (X := X) (d := d + 4) hs _ _) (fun q2 => ?_)
      refine g_guard (fun hb3 => ?_)
      refine g_callV1B d_P_wordRead_13 ml_P_104 vk_P_spells rfl ⟨_, rfl, rfl⟩ rfl (Nat.le_of_ble_eq_true rfl) (w_P_spells (X := X) (d := d) hs (of_decide_eq_true hb3) _) (fun q4 => ?_)
      refine s_if_eq d_P_wordRead_16 (fun u5 => ?_) (fun u5 => ?_)
      · refine g_iinc d_P_wordRead_21 (by decide) rfl ?_
        refine g_goto d_P_wordRead_24 ?_
        exact ih _ _
      · refine g_iload_n d_P_wordRead_19 rfl ?_
        exact g_ireturn d_P_wordRead_20 rfl rfl rfl
def f_P_wordRead (S : St) : Option (Int32 × St) := f_P_wordRead_L2   200 0 S
set_option maxRecDepth 4000 in
theorem w_P_wordRead {X : xC} {d : Nat} {sA : Nat → Nat} (hs : XTxt X sA)  (S : St) : SemG eI X k_P_wordRead (d + 5) 0 [some (.ref (xB X + 34)), none] [] S (f_P_wordRead   S) := by
  unfold f_P_wordRead
  refine g_iconst d_P_wordRead_0 ?_
  refine g_istore_n d_P_wordRead_1 (by decide) ?_
  exact w_P_wordRead_L2 (X := X) (d := d) hs 200 _ _
def f_C_hasRoomFor (p1 : Int32) (S : St) : Option (Bool × St) := let x2 : Int32 := (if 20 < ((S 15 5) + p1) then 0 else 1); some ((if 20 < ((S 15 5) + p1) then false else true), S)
set_option maxRecDepth 4000 in
theorem w_C_hasRoomFor {X : xC} {d : Nat}  (p1 : Int32) (S : St) : SemG eB X k_C_hasRoomFor (d) 0 [some (.ref (xB X + 15)), some (.int p1)] [] S (f_C_hasRoomFor  p1 S) := by
  unfold f_C_hasRoomFor
  refine g_aload_n d_C_hasRoomFor_0 rfl ?_
  refine g_getI d_C_hasRoomFor_1 fl_C_54 rfl rfl ?_
  refine g_iload_n d_C_hasRoomFor_4 rfl ?_
  refine g_iadd d_C_hasRoomFor_5 ?_
  refine g_bipush d_C_hasRoomFor_6 ?_
  refine m_icmp_gt d_C_hasRoomFor_8 (fun hJ1 => g_iconst d_C_hasRoomFor_15 hJ1) (fun hJ1 => g_iconst d_C_hasRoomFor_11 (g_goto d_C_hasRoomFor_12 hJ1)) ?_
  refine g_zreturn d_C_hasRoomFor_16 rfl ?_ rfl
  (repeat' split) <;> rfl
def f_C_addToPlan_L2 : Nat → Int32 → Int32 → Int32 → St → Option (St)
  | 0, _, _, _, _ => none
  | n + 1, y1, y2, y3, S => (if y2 ≤ y3 then some S else (if 20 ≤ (S 15 5) then some S else (if inb (S 15 5) 20 = true then let S4 := put S 21 ((S 15 5)).toNatClampNeg y1; let S5 := put S4 15 5 ((S4 15 5) + 1); f_C_addToPlan_L2   n y1 y2 (y3 + 1) S5 else none)))
set_option maxRecDepth 4000 in
theorem w_C_addToPlan_L2 {X : xC} {d : Nat}   : ∀ (n : Nat) (y1 : Int32) (y2 : Int32) (y3 : Int32) (S : St), SemG eV X k_C_addToPlan (d) 2 [some (.ref (xB X + 15)), some (.int y1), some (.int y2), some (.int y3)] [] S (f_C_addToPlan_L2   n y1 y2 y3 S) := by
  intro n
  induction n with
  | zero => intro _ _ _ _; exact g_none
  | succ n ih =>
    intro y1 y2 y3 S
    unfold f_C_addToPlan_L2
    refine g_iload_n d_C_addToPlan_2 rfl ?_
    refine g_iload_n d_C_addToPlan_3 rfl ?_
    refine s_icmp_ge d_C_addToPlan_4 (fun u1 => ?_) (fun u1 => ?_)
    · exact g_return d_C_addToPlan_42 rfl rfl
    · refine g_aload_n d_C_addToPlan_7 rfl ?_
      refine g_getI d_C_addToPlan_8 fl_C_54 rfl rfl ?_
      refine g_bipush d_C_addToPlan_11 ?_
      refine s_icmp_ge d_C_addToPlan_13 (fun u2 => ?_) (fun u2 => ?_)
      · exact g_return d_C_addToPlan_42 rfl rfl
      · refine g_aload_n d_C_addToPlan_16 rfl ?_
        refine g_getR d_C_addToPlan_17 fl_C_31 rfl rfl ?_
        refine g_aload_n d_C_addToPlan_20 rfl ?_
        refine g_getI d_C_addToPlan_21 fl_C_54 rfl rfl ?_
        refine g_iload_n d_C_addToPlan_24 rfl ?_
        refine g_guard (fun hb3 => ?_)
        refine g_ist d_C_addToPlan_25 rfl hb3 rfl ?_
        refine g_aload_n d_C_addToPlan_26 rfl ?_
        refine g_dup d_C_addToPlan_27 rfl ?_
        refine g_getI d_C_addToPlan_28 fl_C_54 rfl rfl ?_
        refine g_iconst d_C_addToPlan_31 ?_
        refine g_iadd d_C_addToPlan_32 ?_
        refine g_putI d_C_addToPlan_33 fl_C_54 ⟨_, rfl, rfl⟩ rfl rfl rfl rfl ?_
        refine g_iinc d_C_addToPlan_36 (by decide) rfl ?_
        refine g_goto d_C_addToPlan_39 ?_
        exact ih _ _ _ _
def f_C_addToPlan (p1 p2 : Int32) (S : St) : Option (St) := f_C_addToPlan_L2   200 p1 p2 0 S
set_option maxRecDepth 4000 in
theorem w_C_addToPlan {X : xC} {d : Nat}  (p1 p2 : Int32) (S : St) : SemG eV X k_C_addToPlan (d) 0 [some (.ref (xB X + 15)), some (.int p1), some (.int p2), none] [] S (f_C_addToPlan  p1 p2 S) := by
  unfold f_C_addToPlan
  refine g_iconst d_C_addToPlan_0 ?_
  refine g_istore_n d_C_addToPlan_1 (by decide) ?_
  exact w_C_addToPlan_L2 (X := X) (d := d) 200 _ _ _ _
def f_P_readEfforts (p2 : Int32) (S : St) : Option (Bool × St) := ((f_C_hasRoomFor 1 S).bind fun q1 => (if (bI q1.1) = 0 then some (false, q1.2) else ((f_P_step q1.2).bind fun q3 => (if (q3 34 2) = 2 then (if (q3 34 5) < 1 then some (false, q3) else (if 9 < (q3 34 5) then some (false, q3) else ((f_C_hasRoomFor (q3 34 5) q3).bind fun q8 => (if (bI q8.1) = 0 then some (false, q8.2) else ((f_P_step q8.2).bind fun q10 => ((f_C_addToPlan p2 (q3 34 5) q10).bind fun q11 => some (true, q11))))))) else ((f_C_addToPlan p2 1 q3).bind fun q5 => some (true, q5))))))
set_option maxRecDepth 4000 in
theorem w_P_readEfforts {X : xC} {d : Nat}  (p2 : Int32) (S : St) : SemG eB X k_P_readEfforts (d + 3) 0 [some (.ref (xB X + 34)), some (.ref (xB X + 15)), some (.int p2), none] [] S (f_P_readEfforts  p2 S) := by
  unfold f_P_readEfforts
  refine g_aload_n d_P_readEfforts_0 rfl ?_
  refine g_iconst d_P_readEfforts_1 ?_
  refine g_callV1B d_P_readEfforts_2 ml_P_49 vk_C_hasRoomFor rfl ⟨_, rfl, rfl⟩ rfl (Nat.le_of_ble_eq_true rfl) (w_C_hasRoomFor (X := X) (d := d + 2) _ _) (fun q1 => ?_)
  refine s_if_ne d_P_readEfforts_5 (fun u2 => ?_) (fun u2 => ?_)
  · refine g_aload_n d_P_readEfforts_10 rfl ?_
    refine g_callV0V d_P_readEfforts_11 ml_P_22 vk_P_step rfl ⟨_, rfl, rfl⟩ (Nat.le_of_ble_eq_true rfl) (w_P_step (X := X) (d := d) _) (fun q3 => ?_)
    refine g_iconst d_P_readEfforts_14 ?_
    refine g_istore_n d_P_readEfforts_15 (by decide) ?_
    refine g_aload_n d_P_readEfforts_16 rfl ?_
    refine g_getI d_P_readEfforts_17 fl_P_32 rfl rfl ?_
    refine g_iconst d_P_readEfforts_20 ?_
    refine s_icmp_ne d_P_readEfforts_21 (fun u4 => ?_) (fun u4 => ?_)
    · refine g_aload_n d_P_readEfforts_54 rfl ?_
      refine g_iload_n d_P_readEfforts_55 rfl ?_
      refine g_iload_n d_P_readEfforts_56 rfl ?_
      refine g_callV2V d_P_readEfforts_57 ml_P_58 vk_C_addToPlan rfl ⟨_, rfl, rfl⟩ rfl rfl (Nat.le_of_ble_eq_true rfl) (w_C_addToPlan (X := X) (d := d + 2) _ _ _) (fun q5 => ?_)
      refine g_iconst d_P_readEfforts_60 ?_
      refine g_zreturn d_P_readEfforts_61 rfl ?_ rfl
      rfl
    · refine g_aload_n d_P_readEfforts_24 rfl ?_
      refine g_getI d_P_readEfforts_25 fl_P_55 rfl rfl ?_
      refine g_istore_n d_P_readEfforts_28 (by decide) ?_
      refine g_iload_n d_P_readEfforts_29 rfl ?_
      refine g_iconst d_P_readEfforts_30 ?_
      refine s_icmp_lt d_P_readEfforts_31 (fun u6 => ?_) (fun u6 => ?_)
      · refine g_iconst d_P_readEfforts_48 ?_
        refine g_zreturn d_P_readEfforts_49 rfl ?_ rfl
        rfl
      · refine g_iload_n d_P_readEfforts_34 rfl ?_
        refine g_bipush d_P_readEfforts_35 ?_
        refine s_icmp_gt d_P_readEfforts_37 (fun u7 => ?_) (fun u7 => ?_)
        · refine g_iconst d_P_readEfforts_48 ?_
          refine g_zreturn d_P_readEfforts_49 rfl ?_ rfl
          rfl
        · refine g_aload_n d_P_readEfforts_40 rfl ?_
          refine g_iload_n d_P_readEfforts_41 rfl ?_
          refine g_callV1B d_P_readEfforts_42 ml_P_49 vk_C_hasRoomFor rfl ⟨_, rfl, rfl⟩ rfl (Nat.le_of_ble_eq_true rfl) (w_C_hasRoomFor (X := X) (d := d + 2) _ _) (fun q8 => ?_)
          refine s_if_ne d_P_readEfforts_45 (fun u9 => ?_) (fun u9 => ?_)
          · refine g_aload_n d_P_readEfforts_50 rfl ?_
            refine g_callV0V d_P_readEfforts_51 ml_P_22 vk_P_step rfl ⟨_, rfl, rfl⟩ (Nat.le_of_ble_eq_true rfl) (w_P_step (X := X) (d := d) _) (fun q10 => ?_)
            refine g_aload_n d_P_readEfforts_54 rfl ?_
            refine g_iload_n d_P_readEfforts_55 rfl ?_
            refine g_iload_n d_P_readEfforts_56 rfl ?_
            refine g_callV2V d_P_readEfforts_57 ml_P_58 vk_C_addToPlan rfl ⟨_, rfl, rfl⟩ rfl rfl (Nat.le_of_ble_eq_true rfl) (w_C_addToPlan (X := X) (d := d + 2) _ _ _) (fun q11 => ?_)
            refine g_iconst d_P_readEfforts_60 ?_
            refine g_zreturn d_P_readEfforts_61 rfl ?_ rfl
            rfl
          · refine g_iconst d_P_readEfforts_48 ?_
            refine g_zreturn d_P_readEfforts_49 rfl ?_ rfl
            rfl
  · refine g_iconst d_P_readEfforts_8 ?_
    refine g_zreturn d_P_readEfforts_9 rfl ?_ rfl
    rfl
def f_P_readSand_L45 : Nat → Int32 → Int32 → St → Option (Bool × St)
  | 0, _, _, _ => none
  | n + 1, y2, y3, S => (if 40 ≤ y3 then let x9 : Int32 := (if (S 34 2) = 2 then 0 else 1); some ((if (S 34 2) = 2 then false else true), S) else (if (S 34 2) = 2 then (if (S 34 5) ≤ 99 then (if inb y3 40 = true then let S15 := put S 17 (y3).toNatClampNeg (S 34 5); ((f_P_step S15).bind fun q16 => f_P_readSand_L45   n y2 (y3 + 1) q16) else none) else some (false, S)) else let x12 : Int32 := (if (S 34 2) = 2 then 0 else 1); some ((if (S 34 2) = 2 then false else true), S)))
set_option maxRecDepth 4000 in
theorem w_P_readSand_L45 {X : xC} {d : Nat}   : ∀ (n : Nat) (y2 : Int32) (y3 : Int32) (S : St), SemG eB X k_P_readSand (d + 3) 45 [some (.ref (xB X + 34)), some (.ref (xB X + 15)), some (.int y2), some (.int y3)] [] S (f_P_readSand_L45   n y2 y3 S) := by
  intro n
  induction n with
  | zero => intro _ _ _; exact g_none
  | succ n ih =>
    intro y2 y3 S
    unfold f_P_readSand_L45
    refine g_iload_n d_P_readSand_45 rfl ?_
    refine g_bipush d_P_readSand_46 ?_
    refine s_icmp_ge d_P_readSand_48 (fun u7 => ?_) (fun u7 => ?_)
    · refine g_aload_n d_P_readSand_90 rfl ?_
      refine g_getI d_P_readSand_91 fl_P_32 rfl rfl ?_
      refine g_iconst d_P_readSand_94 ?_
      refine m_icmp_eq d_P_readSand_95 (fun hJ8 => g_iconst d_P_readSand_102 hJ8) (fun hJ8 => g_iconst d_P_readSand_98 (g_goto d_P_readSand_99 hJ8)) ?_
      refine g_zreturn d_P_readSand_103 rfl ?_ rfl
      (repeat' split) <;> rfl
    · refine g_aload_n d_P_readSand_51 rfl ?_
      refine g_getI d_P_readSand_52 fl_P_32 rfl rfl ?_
      refine g_iconst d_P_readSand_55 ?_
      refine s_icmp_ne d_P_readSand_56 (fun u10 => ?_) (fun u10 => ?_)
      · refine g_aload_n d_P_readSand_90 rfl ?_
        refine g_getI d_P_readSand_91 fl_P_32 rfl rfl ?_
        refine g_iconst d_P_readSand_94 ?_
        refine m_icmp_eq d_P_readSand_95 (fun hJ11 => g_iconst d_P_readSand_102 hJ11) (fun hJ11 => g_iconst d_P_readSand_98 (g_goto d_P_readSand_99 hJ11)) ?_
        refine g_zreturn d_P_readSand_103 rfl ?_ rfl
        (repeat' split) <;> rfl
      · refine g_aload_n d_P_readSand_59 rfl ?_
        refine g_getI d_P_readSand_60 fl_P_55 rfl rfl ?_
        refine g_bipush d_P_readSand_63 ?_
        refine s_icmp_le d_P_readSand_65 (fun u13 => ?_) (fun u13 => ?_)
        · refine g_aload_n d_P_readSand_70 rfl ?_
          refine g_getR d_P_readSand_71 fl_P_65 rfl rfl ?_
          refine g_iload_n d_P_readSand_74 rfl ?_
          refine g_aload_n d_P_readSand_75 rfl ?_
          refine g_getI d_P_readSand_76 fl_P_55 rfl rfl ?_
          refine g_guard (fun hb14 => ?_)
          refine g_ist d_P_readSand_79 rfl hb14 rfl ?_
          refine g_aload_n d_P_readSand_80 rfl ?_
          refine g_callV0V d_P_readSand_81 ml_P_22 vk_P_step rfl ⟨_, rfl, rfl⟩ (Nat.le_of_ble_eq_true rfl) (w_P_step (X := X) (d := d) _) (fun q16 => ?_)
          refine g_iinc d_P_readSand_84 (by decide) rfl ?_
          refine g_goto d_P_readSand_87 ?_
          exact ih _ _ _
        · refine g_iconst d_P_readSand_68 ?_
          refine g_zreturn d_P_readSand_69 rfl ?_ rfl
          rfl
def f_P_readSand (S : St) : Option (Bool × St) := ((f_P_step S).bind fun q1 => (if (q1 34 2) = 2 then ((f_S_isYard (q1 34 5) q1).bind fun q3 => (if (bI q3.1) = 0 then some (false, q3.2) else ((f_P_step q3.2).bind fun q5 => (if (q5 34 2) = 2 then f_P_readSand_L45   200 (q3.2 34 5) (q3.2 34 5) q5 else some (false, q5))))) else some (false, q1)))
set_option maxRecDepth 4000 in
theorem w_P_readSand {X : xC} {d : Nat}  (S : St) : SemG eB X k_P_readSand (d + 3) 0 [some (.ref (xB X + 34)), some (.ref (xB X + 15)), none, none] [] S (f_P_readSand   S) := by
  unfold f_P_readSand
  refine g_aload_n d_P_readSand_0 rfl ?_
  refine g_callV0V d_P_readSand_1 ml_P_22 vk_P_step rfl ⟨_, rfl, rfl⟩ (Nat.le_of_ble_eq_true rfl) (w_P_step (X := X) (d := d) _) (fun q1 => ?_)
  refine g_aload_n d_P_readSand_4 rfl ?_
  refine g_getI d_P_readSand_5 fl_P_32 rfl rfl ?_
  refine g_iconst d_P_readSand_8 ?_
  refine s_icmp_ne d_P_readSand_9 (fun u2 => ?_) (fun u2 => ?_)
  · refine g_iconst d_P_readSand_22 ?_
    refine g_zreturn d_P_readSand_23 rfl ?_ rfl
    rfl
  · refine g_aload_n d_P_readSand_12 rfl ?_
    refine g_getI d_P_readSand_13 fl_P_55 rfl rfl ?_
    refine g_callN1B d_P_readSand_16 nl_P_62 sk_S_isYard rfl (Nat.le_of_ble_eq_true rfl) (w_S_isYard (X := X) (d := d + 2) _ _) (fun q3 => ?_)
    refine s_if_ne d_P_readSand_19 (fun u4 => ?_) (fun u4 => ?_)
    · refine g_aload_n d_P_readSand_24 rfl ?_
      refine g_getI d_P_readSand_25 fl_P_55 rfl rfl ?_
      refine g_istore_n d_P_readSand_28 (by decide) ?_
      refine g_aload_n d_P_readSand_29 rfl ?_
      refine g_callV0V d_P_readSand_30 ml_P_22 vk_P_step rfl ⟨_, rfl, rfl⟩ (Nat.le_of_ble_eq_true rfl) (w_P_step (X := X) (d := d) _) (fun q5 => ?_)
      refine g_aload_n d_P_readSand_33 rfl ?_
      refine g_getI d_P_readSand_34 fl_P_32 rfl rfl ?_
      refine g_iconst d_P_readSand_37 ?_
      refine s_icmp_eq d_P_readSand_38 (fun u6 => ?_) (fun u6 => ?_)
      · refine g_iload_n d_P_readSand_43 rfl ?_
        refine g_istore_n d_P_readSand_44 (by decide) ?_
        exact w_P_readSand_L45 (X := X) (d := d) 200 _ _ _
      · refine g_iconst d_P_readSand_41 ?_
        refine g_zreturn d_P_readSand_42 rfl ?_ rfl
        rfl
    · refine g_iconst d_P_readSand_22 ?_
      refine g_zreturn d_P_readSand_23 rfl ?_ rfl
      rfl
def f_P_readNumber (p2 : Int32) (S : St) : Option (Bool × St) := ((f_P_step S).bind fun q1 => (if p2 < 2 then some (false, q1) else (if 6 < p2 then some (false, q1) else (if (q1 34 2) = 2 then ((f_S_leastOf p2 q1).bind fun q5 => (if (q1 34 5) < q5.1 then some (false, q5.2) else ((f_S_mostOf p2 q5.2).bind fun q7 => (if (q5.2 34 5) ≤ q7.1 then (if inb p2 10 = true then let S10 := put q7.2 18 (p2).toNatClampNeg (q7.2 34 5); ((f_P_step S10).bind fun q11 => some (true, q11)) else none) else some (false, q7.2))))) else some (false, q1)))))
set_option maxRecDepth 4000 in
theorem w_P_readNumber {X : xC} {d : Nat}  (p2 : Int32) (S : St) : SemG eB X k_P_readNumber (d + 3) 0 [some (.ref (xB X + 34)), some (.ref (xB X + 15)), some (.int p2)] [] S (f_P_readNumber  p2 S) := by
  unfold f_P_readNumber
  refine g_aload_n d_P_readNumber_0 rfl ?_
  refine g_callV0V d_P_readNumber_1 ml_P_22 vk_P_step rfl ⟨_, rfl, rfl⟩ (Nat.le_of_ble_eq_true rfl) (w_P_step (X := X) (d := d) _) (fun q1 => ?_)
  refine g_iload_n d_P_readNumber_4 rfl ?_
  refine g_iconst d_P_readNumber_5 ?_
  refine s_icmp_lt d_P_readNumber_6 (fun u2 => ?_) (fun u2 => ?_)
  · refine g_iconst d_P_readNumber_23 ?_
    refine g_zreturn d_P_readNumber_24 rfl ?_ rfl
    rfl
  · refine g_iload_n d_P_readNumber_9 rfl ?_
    refine g_bipush d_P_readNumber_10 ?_
    refine s_icmp_gt d_P_readNumber_12 (fun u3 => ?_) (fun u3 => ?_)
    · refine g_iconst d_P_readNumber_23 ?_
      refine g_zreturn d_P_readNumber_24 rfl ?_ rfl
      rfl
    · refine g_aload_n d_P_readNumber_15 rfl ?_
      refine g_getI d_P_readNumber_16 fl_P_32 rfl rfl ?_
      refine g_iconst d_P_readNumber_19 ?_
      refine s_icmp_eq d_P_readNumber_20 (fun u4 => ?_) (fun u4 => ?_)
      · refine g_aload_n d_P_readNumber_25 rfl ?_
        refine g_getI d_P_readNumber_26 fl_P_55 rfl rfl ?_
        refine g_iload_n d_P_readNumber_29 rfl ?_
        refine g_callN1I d_P_readNumber_30 nl_P_68 sk_S_leastOf rfl (Nat.le_of_ble_eq_true rfl) (w_S_leastOf (X := X) (d := d + 2) _ _) (fun q5 => ?_)
        refine s_icmp_lt d_P_readNumber_33 (fun u6 => ?_) (fun u6 => ?_)
        · refine g_iconst d_P_readNumber_47 ?_
          refine g_zreturn d_P_readNumber_48 rfl ?_ rfl
          rfl
        · refine g_aload_n d_P_readNumber_36 rfl ?_
          refine g_getI d_P_readNumber_37 fl_P_55 rfl rfl ?_
          refine g_iload_n d_P_readNumber_40 rfl ?_
          refine g_callN1I d_P_readNumber_41 nl_P_72 sk_S_mostOf rfl (Nat.le_of_ble_eq_true rfl) (w_S_mostOf (X := X) (d := d + 2) _ _) (fun q7 => ?_)
          refine s_icmp_le d_P_readNumber_44 (fun u8 => ?_) (fun u8 => ?_)
          · refine g_aload_n d_P_readNumber_49 rfl ?_
            refine g_getR d_P_readNumber_50 fl_P_75 rfl rfl ?_
            refine g_getR d_P_readNumber_53 fl_P_79 rfl rfl ?_
            refine g_iload_n d_P_readNumber_56 rfl ?_
            refine g_aload_n d_P_readNumber_57 rfl ?_
            refine g_getI d_P_readNumber_58 fl_P_55 rfl rfl ?_
            refine g_guard (fun hb9 => ?_)
            refine g_ist d_P_readNumber_61 rfl hb9 rfl ?_
            refine g_aload_n d_P_readNumber_62 rfl ?_
            refine g_callV0V d_P_readNumber_63 ml_P_22 vk_P_step rfl ⟨_, rfl, rfl⟩ (Nat.le_of_ble_eq_true rfl) (w_P_step (X := X) (d := d) _) (fun q11 => ?_)
            refine g_iconst d_P_readNumber_66 ?_
            refine g_zreturn d_P_readNumber_67 rfl ?_ rfl
            rfl
          · refine g_iconst d_P_readNumber_47 ?_
            refine g_zreturn d_P_readNumber_48 rfl ?_ rfl
            rfl
      · refine g_iconst d_P_readNumber_23 ?_
        refine g_zreturn d_P_readNumber_24 rfl ?_ rfl
        rfl
def f_P_readItem (S : St) : Option (Bool × St) := (if (S 34 2) = 1 then ((f_P_wordRead S).bind fun q2 => (if 0 ≤ q2.1 then (if 8 ≤ q2.1 then (if q2.1 = 8 then ((f_P_readSand q2.2).bind fun q7 => some (q7.1, q7.2)) else ((f_P_readNumber ((q2.1 - 8) + 1) q2.2).bind fun q6 => some (q6.1, q6.2))) else ((f_P_readEfforts q2.1 q2.2).bind fun q8 => some (q8.1, q8.2))) else some (false, q2.2))) else some (false, S))
set_option maxRecDepth 4000 in
theorem w_P_readItem {X : xC} {d : Nat} {sA : Nat → Nat} (hs : XTxt X sA)  (S : St) : SemG eB X k_P_readItem (d + 6) 0 [some (.ref (xB X + 34)), some (.ref (xB X + 15)), none] [] S (f_P_readItem   S) := by
  unfold f_P_readItem
  refine g_aload_n d_P_readItem_0 rfl ?_
  refine g_getI d_P_readItem_1 fl_P_32 rfl rfl ?_
  refine g_iconst d_P_readItem_4 ?_
  refine s_icmp_ne d_P_readItem_5 (fun u1 => ?_) (fun u1 => ?_)
  · refine g_iconst d_P_readItem_15 ?_
    refine g_istore_n d_P_readItem_16 (by decide) ?_
    refine g_iload_n d_P_readItem_17 rfl ?_
    refine g_if_ge d_P_readItem_18 (fun h => absurd h (by decide)) (fun _ => ?_)
    refine g_iconst d_P_readItem_21 ?_
    refine g_zreturn d_P_readItem_22 rfl ?_ rfl
    rfl
  · refine g_aload_n d_P_readItem_8 rfl ?_
    refine g_callV0I d_P_readItem_9 ml_P_35 vk_P_wordRead rfl ⟨_, rfl, rfl⟩ (Nat.le_of_ble_eq_true rfl) (w_P_wordRead (X := X) (d := d) hs _) (fun q2 => ?_)
    refine g_goto d_P_readItem_12 ?_
    refine g_istore_n d_P_readItem_16 (by decide) ?_
    refine g_iload_n d_P_readItem_17 rfl ?_
    refine s_if_ge d_P_readItem_18 (fun u3 => ?_) (fun u3 => ?_)
    · refine g_iload_n d_P_readItem_23 rfl ?_
      refine g_bipush d_P_readItem_24 ?_
      refine s_icmp_ge d_P_readItem_26 (fun u4 => ?_) (fun u4 => ?_)
      · refine g_iload_n d_P_readItem_36 rfl ?_
        refine g_bipush d_P_readItem_37 ?_
        refine s_icmp_ne d_P_readItem_39 (fun u5 => ?_) (fun u5 => ?_)
        · refine g_aload_n d_P_readItem_48 rfl ?_
          refine g_aload_n d_P_readItem_49 rfl ?_
          refine g_iload_n d_P_readItem_50 rfl ?_
          refine g_bipush d_P_readItem_51 ?_
          refine g_isub d_P_readItem_53 ?_
          refine g_iconst d_P_readItem_54 ?_
          refine g_iadd d_P_readItem_55 ?_
          refine g_callV2B d_P_readItem_56 ml_P_46 vk_P_readNumber rfl ⟨_, rfl, rfl⟩ rfl rfl (Nat.le_of_ble_eq_true rfl) (w_P_readNumber (X := X) (d := d + 2) _ _) (fun q6 => ?_)
          refine g_zreturn d_P_readItem_59 rfl ?_ rfl
          rfl
        · refine g_aload_n d_P_readItem_42 rfl ?_
          refine g_aload_n d_P_readItem_43 rfl ?_
          refine g_callV1B d_P_readItem_44 ml_P_43 vk_P_readSand rfl ⟨_, rfl, rfl⟩ rfl (Nat.le_of_ble_eq_true rfl) (w_P_readSand (X := X) (d := d + 2) _) (fun q7 => ?_)
          refine g_zreturn d_P_readItem_47 rfl ?_ rfl
          rfl
      · refine g_aload_n d_P_readItem_29 rfl ?_
        refine g_aload_n d_P_readItem_30 rfl ?_
        refine g_iload_n d_P_readItem_31 rfl ?_
        refine g_callV2B d_P_readItem_32 ml_P_39 vk_P_readEfforts rfl ⟨_, rfl, rfl⟩ rfl rfl (Nat.le_of_ble_eq_true rfl) (w_P_readEfforts (X := X) (d := d + 2) _ _) (fun q8 => ?_)
        refine g_zreturn d_P_readItem_35 rfl ?_ rfl
        rfl
    · refine g_iconst d_P_readItem_21 ?_
      refine g_zreturn d_P_readItem_22 rfl ?_ rfl
      rfl
def f_P_readInto_L7 : Nat → Int32 → St → Option (Int32 × St)
  | 0, _, _ => none
  | n + 1, y2, S => (if 120 < y2 then some ((S 34 3), S) else ((f_P_step S).bind fun q3 => ((f_P_readItem q3).bind fun q4 => (if (bI q4.1) = 0 then some ((q4.2 34 3), q4.2) else (if (q4.2 34 2) = 0 then some ((-1), q4.2) else (if (q4.2 34 2) = 3 then f_P_readInto_L7   n (y2 + 1) q4.2 else some ((q4.2 34 3), q4.2)))))))
set_option maxRecDepth 4000 in
theorem w_P_readInto_L7 {X : xC} {d : Nat} {sA : Nat → Nat} (hs : XTxt X sA)   : ∀ (n : Nat) (y2 : Int32) (S : St), SemG eI X k_P_readInto (d + 7) 7 [some (.ref (xB X + 34)), some (.ref (xB X + 15)), some (.int y2)] [] S (f_P_readInto_L7   n y2 S) := by
  intro n
  induction n with
  | zero => intro _ _; exact g_none
  | succ n ih =>
    intro y2 S
    unfold f_P_readInto_L7
    refine g_iload_n d_P_readInto_7 rfl ?_
    refine g_bipush d_P_readInto_8 ?_
    refine s_icmp_gt d_P_readInto_10 (fun u2 => ?_) (fun u2 => ?_)
    · refine g_aload_n d_P_readInto_58 rfl ?_
      refine g_getI d_P_readInto_59 fl_P_29 rfl rfl ?_
      exact g_ireturn d_P_readInto_62 rfl rfl rfl
    · refine g_aload_n d_P_readInto_13 rfl ?_
      refine g_callV0V d_P_readInto_14 ml_P_22 vk_P_step rfl ⟨_, rfl, rfl⟩ (Nat.le_of_ble_eq_true rfl) (w_P_step (X := X) (d := d + 4) _) (fun q3 => ?_)
      refine g_aload_n d_P_readInto_17 rfl ?_
      refine g_aload_n d_P_readInto_18 rfl ?_
      refine g_callV1B d_P_readInto_19 ml_P_25 vk_P_readItem rfl ⟨_, rfl, rfl⟩ rfl (Nat.le_of_ble_eq_true rfl) (w_P_readItem (X := X) (d := d) hs _) (fun q4 => ?_)
      refine s_if_ne d_P_readInto_22 (fun u5 => ?_) (fun u5 => ?_)
      · refine g_aload_n d_P_readInto_30 rfl ?_
        refine g_getI d_P_readInto_31 fl_P_32 rfl rfl ?_
        refine s_if_ne d_P_readInto_34 (fun u6 => ?_) (fun u6 => ?_)
        · refine g_aload_n d_P_readInto_39 rfl ?_
          refine g_getI d_P_readInto_40 fl_P_32 rfl rfl ?_
          refine g_iconst d_P_readInto_43 ?_
          refine s_icmp_eq d_P_readInto_44 (fun u7 => ?_) (fun u7 => ?_)
          · refine g_iinc d_P_readInto_52 (by decide) rfl ?_
            refine g_goto d_P_readInto_55 ?_
            exact ih _ _
          · refine g_aload_n d_P_readInto_47 rfl ?_
            refine g_getI d_P_readInto_48 fl_P_29 rfl rfl ?_
            exact g_ireturn d_P_readInto_51 rfl rfl rfl
        · refine g_iconst d_P_readInto_37 ?_
          exact g_ireturn d_P_readInto_38 rfl rfl rfl
      · refine g_aload_n d_P_readInto_25 rfl ?_
        refine g_getI d_P_readInto_26 fl_P_29 rfl rfl ?_
        exact g_ireturn d_P_readInto_29 rfl rfl rfl
def f_P_readInto (S : St) : Option (Int32 × St) := let S1 := put S 34 4 0; f_P_readInto_L7   200 0 S1
set_option maxRecDepth 4000 in
theorem w_P_readInto {X : xC} {d : Nat} {sA : Nat → Nat} (hs : XTxt X sA)  (S : St) : SemG eI X k_P_readInto (d + 7) 0 [some (.ref (xB X + 34)), some (.ref (xB X + 15)), none] [] S (f_P_readInto   S) := by
  unfold f_P_readInto
  refine g_aload_n d_P_readInto_0 rfl ?_
  refine g_iconst d_P_readInto_1 ?_
  refine g_putI d_P_readInto_2 fl_P_19 ⟨_, rfl, rfl⟩ rfl rfl rfl rfl ?_
  refine g_iconst d_P_readInto_5 ?_
  refine g_istore_n d_P_readInto_6 (by decide) ?_
  exact w_P_readInto_L7 (X := X) (d := d) hs 200 _ _
def f_C_become_15_1 (S : St) : Option (St) := let S1 := cpy S 3 17 0 0 40; ((f_L_become 16 17 18 2 3 4 S1).bind fun q2 => let S3 := cpy q2 5 19 0 0 10; let S4 := cpy S3 6 20 0 0 10; let S5 := cpy S4 7 21 0 0 20; let S6 := put S5 15 5 (S5 1 5); let S7 := put S6 15 6 (S6 1 6); some S7)
set_option maxRecDepth 4000 in
theorem w_C_become_15_1 {X : xC} {d : Nat}  (S : St) : SemG eV X k_C_become (d + 2) 0 [some (.ref (xB X + 15)), some (.ref (xB X + 1))] [] S (f_C_become_15_1   S) := by
  unfold f_C_become_15_1
  refine g_aload_n d_C_become_0 rfl ?_
  refine g_getR d_C_become_1 fl_C_24 rfl rfl ?_
  refine g_iconst d_C_become_4 ?_
  refine g_aload_n d_C_become_5 rfl ?_
  refine g_getR d_C_become_6 fl_C_24 rfl rfl ?_
  refine g_iconst d_C_become_9 ?_
  refine g_bipush d_C_become_10 ?_
  refine g_copy d_C_become_12 ml_C_44 (Nat.le_of_ble_eq_true rfl) rfl rfl (by decide) ?_
  refine g_aload_n d_C_become_15 rfl ?_
  refine g_getR d_C_become_16 fl_C_14 rfl rfl ?_
  refine g_aload_n d_C_become_19 rfl ?_
  refine g_getR d_C_become_20 fl_C_14 rfl rfl ?_
  refine g_callV1V d_C_become_23 ml_C_50 vk_L_become rfl ⟨_, rfl, rfl⟩ rfl (Nat.le_of_ble_eq_true rfl) (w_L_become (X := X) (d := d) rfl rfl rfl rfl rfl rfl _) (fun q2 => ?_)
  refine g_aload_n d_C_become_26 rfl ?_
  refine g_getR d_C_become_27 fl_C_25 rfl rfl ?_
  refine g_iconst d_C_become_30 ?_
  refine g_aload_n d_C_become_31 rfl ?_
  refine g_getR d_C_become_32 fl_C_25 rfl rfl ?_
  refine g_iconst d_C_become_35 ?_
  refine g_bipush d_C_become_36 ?_
  refine g_copy d_C_become_38 ml_C_44 (Nat.le_of_ble_eq_true rfl) rfl rfl (by decide) ?_
  refine g_aload_n d_C_become_41 rfl ?_
  refine g_getR d_C_become_42 fl_C_28 rfl rfl ?_
  refine g_iconst d_C_become_45 ?_
  refine g_aload_n d_C_become_46 rfl ?_
  refine g_getR d_C_become_47 fl_C_28 rfl rfl ?_
  refine g_iconst d_C_become_50 ?_
  refine g_bipush d_C_become_51 ?_
  refine g_copy d_C_become_53 ml_C_44 (Nat.le_of_ble_eq_true rfl) rfl rfl (by decide) ?_
  refine g_aload_n d_C_become_56 rfl ?_
  refine g_getR d_C_become_57 fl_C_31 rfl rfl ?_
  refine g_iconst d_C_become_60 ?_
  refine g_aload_n d_C_become_61 rfl ?_
  refine g_getR d_C_become_62 fl_C_31 rfl rfl ?_
  refine g_iconst d_C_become_65 ?_
  refine g_bipush d_C_become_66 ?_
  refine g_copy d_C_become_68 ml_C_44 (Nat.le_of_ble_eq_true rfl) rfl rfl (by decide) ?_
  refine g_aload_n d_C_become_71 rfl ?_
  refine g_aload_n d_C_become_72 rfl ?_
  refine g_getI d_C_become_73 fl_C_54 rfl rfl ?_
  refine g_putI d_C_become_76 fl_C_54 ⟨_, rfl, rfl⟩ rfl rfl rfl rfl ?_
  refine g_aload_n d_C_become_79 rfl ?_
  refine g_aload_n d_C_become_80 rfl ?_
  refine g_getI d_C_become_81 fl_C_34 rfl rfl ?_
  refine g_putI d_C_become_84 fl_C_34 ⟨_, rfl, rfl⟩ rfl rfl rfl rfl ?_
  exact g_return d_C_become_87 rfl rfl
def f_C_become_1_15 (S : St) : Option (St) := let S1 := cpy S 17 3 0 0 40; ((f_L_become 2 3 4 16 17 18 S1).bind fun q2 => let S3 := cpy q2 19 5 0 0 10; let S4 := cpy S3 20 6 0 0 10; let S5 := cpy S4 21 7 0 0 20; let S6 := put S5 1 5 (S5 15 5); let S7 := put S6 1 6 (S6 15 6); some S7)
set_option maxRecDepth 4000 in
theorem w_C_become_1_15 {X : xC} {d : Nat}  (S : St) : SemG eV X k_C_become (d + 2) 0 [some (.ref (xB X + 1)), some (.ref (xB X + 15))] [] S (f_C_become_1_15   S) := by
  unfold f_C_become_1_15
  refine g_aload_n d_C_become_0 rfl ?_
  refine g_getR d_C_become_1 fl_C_24 rfl rfl ?_
  refine g_iconst d_C_become_4 ?_
  refine g_aload_n d_C_become_5 rfl ?_
  refine g_getR d_C_become_6 fl_C_24 rfl rfl ?_
  refine g_iconst d_C_become_9 ?_
  refine g_bipush d_C_become_10 ?_
  refine g_copy d_C_become_12 ml_C_44 (Nat.le_of_ble_eq_true rfl) rfl rfl (by decide) ?_
  refine g_aload_n d_C_become_15 rfl ?_
  refine g_getR d_C_become_16 fl_C_14 rfl rfl ?_
  refine g_aload_n d_C_become_19 rfl ?_
  refine g_getR d_C_become_20 fl_C_14 rfl rfl ?_
  refine g_callV1V d_C_become_23 ml_C_50 vk_L_become rfl ⟨_, rfl, rfl⟩ rfl (Nat.le_of_ble_eq_true rfl) (w_L_become (X := X) (d := d) rfl rfl rfl rfl rfl rfl _) (fun q2 => ?_)
  refine g_aload_n d_C_become_26 rfl ?_
  refine g_getR d_C_become_27 fl_C_25 rfl rfl ?_
  refine g_iconst d_C_become_30 ?_
  refine g_aload_n d_C_become_31 rfl ?_
  refine g_getR d_C_become_32 fl_C_25 rfl rfl ?_
  refine g_iconst d_C_become_35 ?_
  refine g_bipush d_C_become_36 ?_
  refine g_copy d_C_become_38 ml_C_44 (Nat.le_of_ble_eq_true rfl) rfl rfl (by decide) ?_
  refine g_aload_n d_C_become_41 rfl ?_
  refine g_getR d_C_become_42 fl_C_28 rfl rfl ?_
  refine g_iconst d_C_become_45 ?_
  refine g_aload_n d_C_become_46 rfl ?_
  refine g_getR d_C_become_47 fl_C_28 rfl rfl ?_
  refine g_iconst d_C_become_50 ?_
  refine g_bipush d_C_become_51 ?_
  refine g_copy d_C_become_53 ml_C_44 (Nat.le_of_ble_eq_true rfl) rfl rfl (by decide) ?_
  refine g_aload_n d_C_become_56 rfl ?_
  refine g_getR d_C_become_57 fl_C_31 rfl rfl ?_
  refine g_iconst d_C_become_60 ?_
  refine g_aload_n d_C_become_61 rfl ?_
  refine g_getR d_C_become_62 fl_C_31 rfl rfl ?_
  refine g_iconst d_C_become_65 ?_
  refine g_bipush d_C_become_66 ?_
  refine g_copy d_C_become_68 ml_C_44 (Nat.le_of_ble_eq_true rfl) rfl rfl (by decide) ?_
  refine g_aload_n d_C_become_71 rfl ?_
  refine g_aload_n d_C_become_72 rfl ?_
  refine g_getI d_C_become_73 fl_C_54 rfl rfl ?_
  refine g_putI d_C_become_76 fl_C_54 ⟨_, rfl, rfl⟩ rfl rfl rfl rfl ?_
  refine g_aload_n d_C_become_79 rfl ?_
  refine g_aload_n d_C_become_80 rfl ?_
  refine g_getI d_C_become_81 fl_C_34 rfl rfl ?_
  refine g_putI d_C_become_84 fl_C_34 ⟨_, rfl, rfl⟩ rfl rfl rfl rfl ?_
  exact g_return d_C_become_87 rfl rfl
def f_S_text (S : St) : Option (Int32 × St) := ((f_C_become_15_1 S).bind fun q1 => ((f_P_readInto q1).bind fun q2 => let S3 := put q2.2 34 1 0; (if q2.1 < 0 then ((f_C_become_1_15 S3).bind fun q5 => some ((q5 1 5), q5)) else some (((-1) - q2.1), S3))))
set_option maxRecDepth 4000 in
theorem w_S_text {X : xC} {d : Nat} {sA : Nat → Nat} (hs : XTxt X sA)  (S : St) : SemG eI X k_S_text (d + 8) 0 [some (.ref (xB X + 0)), none] [] S (f_S_text   S) := by
  unfold f_S_text
  refine g_aload_n d_S_text_0 rfl ?_
  refine g_getR d_S_text_1 fl_S_19 rfl rfl ?_
  refine g_aload_n d_S_text_4 rfl ?_
  refine g_getR d_S_text_5 fl_S_10 rfl rfl ?_
  refine g_callV1V d_S_text_8 ml_S_144 vk_C_become rfl ⟨_, rfl, rfl⟩ rfl (Nat.le_of_ble_eq_true rfl) (w_C_become_15_1 (X := X) (d := d + 5) _) (fun q1 => ?_)
  refine g_aload_n d_S_text_11 rfl ?_
  refine g_getR d_S_text_12 fl_S_49 rfl rfl ?_
  refine g_aload_n d_S_text_15 rfl ?_
  refine g_getR d_S_text_16 fl_S_19 rfl rfl ?_
  refine g_callV1I d_S_text_19 ml_S_147 vk_P_readInto rfl ⟨_, rfl, rfl⟩ rfl (Nat.le_of_ble_eq_true rfl) (w_P_readInto (X := X) (d := d) hs _) (fun q2 => ?_)
  refine g_istore_n d_S_text_22 (by decide) ?_
  refine g_aload_n d_S_text_23 rfl ?_
  refine g_getR d_S_text_24 fl_S_49 rfl rfl ?_
  refine g_iconst d_S_text_27 ?_
  refine g_putI d_S_text_28 fl_S_137 ⟨_, rfl, rfl⟩ rfl rfl rfl rfl ?_
  refine g_iload_n d_S_text_31 rfl ?_
  refine s_if_lt d_S_text_32 (fun u4 => ?_) (fun u4 => ?_)
  · refine g_aload_n d_S_text_39 rfl ?_
    refine g_getR d_S_text_40 fl_S_10 rfl rfl ?_
    refine g_aload_n d_S_text_43 rfl ?_
    refine g_getR d_S_text_44 fl_S_19 rfl rfl ?_
    refine g_callV1V d_S_text_47 ml_S_144 vk_C_become rfl ⟨_, rfl, rfl⟩ rfl (Nat.le_of_ble_eq_true rfl) (w_C_become_1_15 (X := X) (d := d + 5) _) (fun q5 => ?_)
    refine g_aload_n d_S_text_50 rfl ?_
    refine g_getR d_S_text_51 fl_S_10 rfl rfl ?_
    refine g_getI d_S_text_54 fl_S_151 rfl rfl ?_
    exact g_ireturn d_S_text_57 rfl rfl rfl
  · refine g_iconst d_S_text_35 ?_
    refine g_iload_n d_S_text_36 rfl ?_
    refine g_isub d_S_text_37 ?_
    exact g_ireturn d_S_text_38 rfl rfl rfl
