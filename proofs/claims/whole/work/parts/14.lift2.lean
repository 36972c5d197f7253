def f_S_finding (p1 : Int32) (S : St) : Option (Int32 × St) := (if p1 < 0 then some (((-1000001) - p1), S) else (if 7 ≤ p1 then some (((-1000001) - p1), S) else (if inb p1 7 = true then let S4 := put S 45 (p1).toNatClampNeg ((S 45 (p1).toNatClampNeg) + 1); some (((-1000001) - p1), S4) else none)))
set_option maxRecDepth 4000 in
theorem w_S_finding {X : xC} {d : Nat}  (p1 : Int32) (S : St) : SemG eI X k_S_finding (d) 0 [some (.ref (xB X + 0)), some (.int p1)] [] S (f_S_finding  p1 S) := by
  unfold f_S_finding
  refine g_iload_n d_S_finding_0 rfl ?_
  refine s_if_lt d_S_finding_1 (fun u1 => ?_) (fun u1 => ?_)
  · refine g_ldc d_S_finding_20 cn_S_244 ?_
    refine g_iload_n d_S_finding_22 rfl ?_
    refine g_isub d_S_finding_23 ?_
    exact g_ireturn d_S_finding_24 rfl rfl rfl
  · refine g_iload_n d_S_finding_4 rfl ?_
    refine g_bipush d_S_finding_5 ?_
    refine s_icmp_ge d_S_finding_7 (fun u2 => ?_) (fun u2 => ?_)
    · refine g_ldc d_S_finding_20 cn_S_244 ?_
      refine g_iload_n d_S_finding_22 rfl ?_
      refine g_isub d_S_finding_23 ?_
      exact g_ireturn d_S_finding_24 rfl rfl rfl
    · refine g_aload_n d_S_finding_10 rfl ?_
      refine g_getR d_S_finding_11 fl_S_60 rfl rfl ?_
      refine g_iload_n d_S_finding_14 rfl ?_
      refine g_dup2 d_S_finding_15 rfl rfl ?_
      refine g_guard (fun hb3 => ?_)
      refine g_ild d_S_finding_16 rfl hb3 rfl ?_
      refine g_iconst d_S_finding_17 ?_
      refine g_iadd d_S_finding_18 ?_
      refine g_ist d_S_finding_19 rfl hb3 rfl ?_
      refine g_ldc d_S_finding_20 cn_S_244 ?_
      refine g_iload_n d_S_finding_22 rfl ?_
      refine g_isub d_S_finding_23 ?_
      exact g_ireturn d_S_finding_24 rfl rfl rfl
def f_S_sand (p1 p2 : Int32) (S : St) : Option (Int32 × St) := ((f_S_isYard p1 S).bind fun q1 => (if (bI q1.1) = 0 then ((f_S_finding 0 q1.2).bind fun q3 => some (q3.1, q3.2)) else (if p2 < 0 then ((f_S_finding 0 q1.2).bind fun q5 => some (q5.1, q5.2)) else (if p2 ≤ 99 then (if inb p1 40 = true then let x8 : Int32 := (q1.2 3 (p1).toNatClampNeg); let S9 := put q1.2 3 (p1).toNatClampNeg p2; some (x8, S9) else none) else ((f_S_finding 0 q1.2).bind fun q10 => some (q10.1, q10.2))))))
set_option maxRecDepth 4000 in
theorem w_S_sand {X : xC} {d : Nat}  (p1 p2 : Int32) (S : St) : SemG eI X k_S_sand (d + 1) 0 [some (.ref (xB X + 0)), some (.int p1), some (.int p2), none] [] S (f_S_sand  p1 p2 S) := by
  unfold f_S_sand
  refine g_iload_n d_S_sand_0 rfl ?_
  refine g_callS1B d_S_sand_1 ml_S_63 sk_S_isYard rfl (Nat.le_of_ble_eq_true rfl) (w_S_isYard (X := X) (d := d) _ _) (fun q1 => ?_)
  refine s_if_eq d_S_sand_4 (fun u2 => ?_) (fun u2 => ?_)
  · refine g_aload_n d_S_sand_17 rfl ?_
    refine g_iconst d_S_sand_18 ?_
    refine g_callV1I d_S_sand_19 ml_S_67 vk_S_finding rfl ⟨_, rfl, rfl⟩ rfl (Nat.le_of_ble_eq_true rfl) (w_S_finding (X := X) (d := d) _ _) (fun q3 => ?_)
    exact g_ireturn d_S_sand_22 rfl rfl rfl
  · refine g_iload_n d_S_sand_7 rfl ?_
    refine s_if_lt d_S_sand_8 (fun u4 => ?_) (fun u4 => ?_)
    · refine g_aload_n d_S_sand_17 rfl ?_
      refine g_iconst d_S_sand_18 ?_
      refine g_callV1I d_S_sand_19 ml_S_67 vk_S_finding rfl ⟨_, rfl, rfl⟩ rfl (Nat.le_of_ble_eq_true rfl) (w_S_finding (X := X) (d := d) _ _) (fun q5 => ?_)
      exact g_ireturn d_S_sand_22 rfl rfl rfl
    · refine g_iload_n d_S_sand_11 rfl ?_
      refine g_bipush d_S_sand_12 ?_
      refine s_icmp_le d_S_sand_14 (fun u6 => ?_) (fun u6 => ?_)
      · refine g_aload_n d_S_sand_23 rfl ?_
        refine g_getR d_S_sand_24 fl_S_10 rfl rfl ?_
        refine g_getR d_S_sand_27 fl_S_29 rfl rfl ?_
        refine g_iload_n d_S_sand_30 rfl ?_
        refine g_guard (fun hb7 => ?_)
        refine g_ild d_S_sand_31 rfl hb7 rfl ?_
        refine g_istore_n d_S_sand_32 (by decide) ?_
        refine g_aload_n d_S_sand_33 rfl ?_
        refine g_getR d_S_sand_34 fl_S_10 rfl rfl ?_
        refine g_getR d_S_sand_37 fl_S_29 rfl rfl ?_
        refine g_iload_n d_S_sand_40 rfl ?_
        refine g_iload_n d_S_sand_41 rfl ?_
        refine g_ist d_S_sand_42 rfl hb7 rfl ?_
        refine g_iload_n d_S_sand_43 rfl ?_
        exact g_ireturn d_S_sand_44 rfl rfl rfl
      · refine g_aload_n d_S_sand_17 rfl ?_
        refine g_iconst d_S_sand_18 ?_
        refine g_callV1I d_S_sand_19 ml_S_67 vk_S_finding rfl ⟨_, rfl, rfl⟩ rfl (Nat.le_of_ble_eq_true rfl) (w_S_finding (X := X) (d := d) _ _) (fun q10 => ?_)
        exact g_ireturn d_S_sand_22 rfl rfl rfl
def f_S_yardOf (p1 p2 : Int32) (S : St) : Option (Int32 × St) := ((f_S_isYard p1 S).bind fun q1 => (if (bI q1.1) = 0 then ((f_S_finding 0 q1.2).bind fun q3 => some (q3.1, q3.2)) else (if p2 < 0 then ((f_S_finding 0 q1.2).bind fun q5 => some (q5.1, q5.2)) else (if p2 ≤ 1 then (if inb p1 40 = true then let x8 : Int32 := (q1.2 3 (p1).toNatClampNeg); (if p2 = 0 then some (x8, q1.2) else ((f_L_gripOf 2 3 4 x8 (q1.2 4 3) q1.2).bind fun q10 => some (q10.1, q10.2))) else none) else ((f_S_finding 0 q1.2).bind fun q11 => some (q11.1, q11.2))))))
set_option maxRecDepth 4000 in
theorem w_S_yardOf {X : xC} {d : Nat}  (p1 p2 : Int32) (S : St) : SemG eI X k_S_yardOf (d + 2) 0 [some (.ref (xB X + 0)), some (.int p1), some (.int p2), none] [] S (f_S_yardOf  p1 p2 S) := by
  unfold f_S_yardOf
  refine g_iload_n d_S_yardOf_0 rfl ?_
  refine g_callS1B d_S_yardOf_1 ml_S_63 sk_S_isYard rfl (Nat.le_of_ble_eq_true rfl) (w_S_isYard (X := X) (d := d + 1) _ _) (fun q1 => ?_)
  refine s_if_eq d_S_yardOf_4 (fun u2 => ?_) (fun u2 => ?_)
  · refine g_aload_n d_S_yardOf_16 rfl ?_
    refine g_iconst d_S_yardOf_17 ?_
    refine g_callV1I d_S_yardOf_18 ml_S_67 vk_S_finding rfl ⟨_, rfl, rfl⟩ rfl (Nat.le_of_ble_eq_true rfl) (w_S_finding (X := X) (d := d + 1) _ _) (fun q3 => ?_)
    exact g_ireturn d_S_yardOf_21 rfl rfl rfl
  · refine g_iload_n d_S_yardOf_7 rfl ?_
    refine s_if_lt d_S_yardOf_8 (fun u4 => ?_) (fun u4 => ?_)
    · refine g_aload_n d_S_yardOf_16 rfl ?_
      refine g_iconst d_S_yardOf_17 ?_
      refine g_callV1I d_S_yardOf_18 ml_S_67 vk_S_finding rfl ⟨_, rfl, rfl⟩ rfl (Nat.le_of_ble_eq_true rfl) (w_S_finding (X := X) (d := d + 1) _ _) (fun q5 => ?_)
      exact g_ireturn d_S_yardOf_21 rfl rfl rfl
    · refine g_iload_n d_S_yardOf_11 rfl ?_
      refine g_iconst d_S_yardOf_12 ?_
      refine s_icmp_le d_S_yardOf_13 (fun u6 => ?_) (fun u6 => ?_)
      · refine g_aload_n d_S_yardOf_22 rfl ?_
        refine g_getR d_S_yardOf_23 fl_S_10 rfl rfl ?_
        refine g_getR d_S_yardOf_26 fl_S_29 rfl rfl ?_
        refine g_iload_n d_S_yardOf_29 rfl ?_
        refine g_guard (fun hb7 => ?_)
        refine g_ild d_S_yardOf_30 rfl hb7 rfl ?_
        refine g_istore_n d_S_yardOf_31 (by decide) ?_
        refine g_iload_n d_S_yardOf_32 rfl ?_
        refine s_if_ne d_S_yardOf_33 (fun u9 => ?_) (fun u9 => ?_)
        · refine g_aload_n d_S_yardOf_40 rfl ?_
          refine g_getR d_S_yardOf_41 fl_S_26 rfl rfl ?_
          refine g_iload_n d_S_yardOf_44 rfl ?_
          refine g_aload_n d_S_yardOf_45 rfl ?_
          refine g_getR d_S_yardOf_46 fl_S_26 rfl rfl ?_
          refine g_getR d_S_yardOf_49 fl_S_71 rfl rfl ?_
          refine g_iconst d_S_yardOf_52 ?_
          refine g_ild d_S_yardOf_53 rfl il_3_10.1 il_3_10.2 ?_
          refine g_callV2I d_S_yardOf_54 ml_S_74 vk_L_gripOf rfl ⟨_, rfl, rfl⟩ rfl rfl (Nat.le_of_ble_eq_true rfl) (w_L_gripOf (X := X) (d := d) rfl rfl rfl _ _ _) (fun q10 => ?_)
          exact g_ireturn d_S_yardOf_57 rfl rfl rfl
        · refine g_iload_n d_S_yardOf_36 rfl ?_
          refine g_goto d_S_yardOf_37 ?_
          exact g_ireturn d_S_yardOf_57 rfl rfl rfl
      · refine g_aload_n d_S_yardOf_16 rfl ?_
        refine g_iconst d_S_yardOf_17 ?_
        refine g_callV1I d_S_yardOf_18 ml_S_67 vk_S_finding rfl ⟨_, rfl, rfl⟩ rfl (Nat.le_of_ble_eq_true rfl) (w_S_finding (X := X) (d := d + 1) _ _) (fun q11 => ?_)
        exact g_ireturn d_S_yardOf_21 rfl rfl rfl
def f_S_leastOf (p1 : Int32) (S : St) : Option (Int32 × St) := let x2 : Int32 := (if p1 = 5 then 1 else 0); some (x2, S)
set_option maxRecDepth 4000 in
theorem w_S_leastOf {X : xC} {d : Nat}  (p1 : Int32) (S : St) : SemG eI X k_S_leastOf (d) 0 [some (.int p1)] [] S (f_S_leastOf  p1 S) := by
  unfold f_S_leastOf
  refine g_iload_n d_S_leastOf_0 rfl ?_
  refine g_iconst d_S_leastOf_1 ?_
  refine m_icmp_ne d_S_leastOf_2 (fun hJ1 => g_iconst d_S_leastOf_9 hJ1) (fun hJ1 => g_iconst d_S_leastOf_5 (g_goto d_S_leastOf_6 hJ1)) ?_
  exact g_ireturn d_S_leastOf_10 rfl rfl rfl
def f_S_mostOf (p1 : Int32) (S : St) : Option (Int32 × St) := (if p1 = 0 then some (39, S) else (if p1 = 1 then some (99, S) else (if p1 = 2 then some (99, S) else (if p1 = 3 then some (9, S) else (if p1 = 4 then some (8, S) else (if p1 = 5 then some (8, S) else some (9999, S)))))))
set_option maxRecDepth 4000 in
theorem w_S_mostOf {X : xC} {d : Nat}  (p1 : Int32) (S : St) : SemG eI X k_S_mostOf (d) 0 [some (.int p1)] [] S (f_S_mostOf  p1 S) := by
  unfold f_S_mostOf
  refine g_iload_n d_S_mostOf_0 rfl ?_
  refine g_ite (fun u1 => ?_) (fun u1 => ?_)
  · refine g_tcase (off := 39) (tgt := 40) d_S_mostOf_1 u1 (by decide) ?_
    refine g_bipush d_S_mostOf_40 ?_
    exact g_ireturn d_S_mostOf_42 rfl rfl rfl
  refine g_ite (fun u2 => ?_) (fun u2 => ?_)
  · refine g_tcase (off := 42) (tgt := 43) d_S_mostOf_1 u2 (by decide) ?_
    refine g_bipush d_S_mostOf_43 ?_
    exact g_ireturn d_S_mostOf_45 rfl rfl rfl
  refine g_ite (fun u3 => ?_) (fun u3 => ?_)
  · refine g_tcase (off := 45) (tgt := 46) d_S_mostOf_1 u3 (by decide) ?_
    refine g_bipush d_S_mostOf_46 ?_
    exact g_ireturn d_S_mostOf_48 rfl rfl rfl
  refine g_ite (fun u4 => ?_) (fun u4 => ?_)
  · refine g_tcase (off := 48) (tgt := 49) d_S_mostOf_1 u4 (by decide) ?_
    refine g_bipush d_S_mostOf_49 ?_
    exact g_ireturn d_S_mostOf_51 rfl rfl rfl
  refine g_ite (fun u5 => ?_) (fun u5 => ?_)
  · refine g_tcase (off := 51) (tgt := 52) d_S_mostOf_1 u5 (by decide) ?_
    refine g_bipush d_S_mostOf_52 ?_
    exact g_ireturn d_S_mostOf_54 rfl rfl rfl
  refine g_ite (fun u6 => ?_) (fun u6 => ?_)
  · refine g_tcase (off := 54) (tgt := 55) d_S_mostOf_1 u6 (by decide) ?_
    refine g_bipush d_S_mostOf_55 ?_
    exact g_ireturn d_S_mostOf_57 rfl rfl rfl
  have eu1 := ne32 (n := 0) u1 (by decide)
  have eu2 := ne32 (n := 1) u2 (by decide)
  have eu3 := ne32 (n := 2) u3 (by decide)
  have eu4 := ne32 (n := 3) u4 (by decide)
  have eu5 := ne32 (n := 4) u5 (by decide)
  have eu6 := ne32 (n := 5) u6 (by decide)
  refine g_tdef (tgt := 58) d_S_mostOf_1 (by omega) (by decide) ?_
  refine g_sipush d_S_mostOf_58 ?_
  exact g_ireturn d_S_mostOf_61 rfl rfl rfl
def f_S_set (p1 p2 : Int32) (S : St) : Option (Int32 × St) := (if p1 < 0 then ((f_S_finding 0 S).bind fun q2 => some (q2.1, q2.2)) else (if 6 < p1 then ((f_S_finding 0 S).bind fun q4 => some (q4.1, q4.2)) else ((f_S_leastOf p1 S).bind fun q5 => (if p2 < q5.1 then ((f_S_finding 0 q5.2).bind fun q7 => some (q7.1, q7.2)) else ((f_S_mostOf p1 q5.2).bind fun q8 => (if p2 ≤ q8.1 then (if inb p1 10 = true then let x11 : Int32 := (q8.2 4 (p1).toNatClampNeg); let S12 := put q8.2 4 (p1).toNatClampNeg p2; some (x11, S12) else none) else ((f_S_finding 0 q8.2).bind fun q13 => some (q13.1, q13.2))))))))
set_option maxRecDepth 4000 in
theorem w_S_set {X : xC} {d : Nat}  (p1 p2 : Int32) (S : St) : SemG eI X k_S_set (d + 1) 0 [some (.ref (xB X + 0)), some (.int p1), some (.int p2), none] [] S (f_S_set  p1 p2 S) := by
  unfold f_S_set
  refine g_iload_n d_S_set_0 rfl ?_
  refine s_if_lt d_S_set_1 (fun u1 => ?_) (fun u1 => ?_)
  · refine g_aload_n d_S_set_26 rfl ?_
    refine g_iconst d_S_set_27 ?_
    refine g_callV1I d_S_set_28 ml_S_67 vk_S_finding rfl ⟨_, rfl, rfl⟩ rfl (Nat.le_of_ble_eq_true rfl) (w_S_finding (X := X) (d := d) _ _) (fun q2 => ?_)
    exact g_ireturn d_S_set_31 rfl rfl rfl
  · refine g_iload_n d_S_set_4 rfl ?_
    refine g_bipush d_S_set_5 ?_
    refine s_icmp_gt d_S_set_7 (fun u3 => ?_) (fun u3 => ?_)
    · refine g_aload_n d_S_set_26 rfl ?_
      refine g_iconst d_S_set_27 ?_
      refine g_callV1I d_S_set_28 ml_S_67 vk_S_finding rfl ⟨_, rfl, rfl⟩ rfl (Nat.le_of_ble_eq_true rfl) (w_S_finding (X := X) (d := d) _ _) (fun q4 => ?_)
      exact g_ireturn d_S_set_31 rfl rfl rfl
    · refine g_iload_n d_S_set_10 rfl ?_
      refine g_iload_n d_S_set_11 rfl ?_
      refine g_callS1I d_S_set_12 ml_S_78 sk_S_leastOf rfl (Nat.le_of_ble_eq_true rfl) (w_S_leastOf (X := X) (d := d) _ _) (fun q5 => ?_)
      refine s_icmp_lt d_S_set_15 (fun u6 => ?_) (fun u6 => ?_)
      · refine g_aload_n d_S_set_26 rfl ?_
        refine g_iconst d_S_set_27 ?_
        refine g_callV1I d_S_set_28 ml_S_67 vk_S_finding rfl ⟨_, rfl, rfl⟩ rfl (Nat.le_of_ble_eq_true rfl) (w_S_finding (X := X) (d := d) _ _) (fun q7 => ?_)
        exact g_ireturn d_S_set_31 rfl rfl rfl
      · refine g_iload_n d_S_set_18 rfl ?_
        refine g_iload_n d_S_set_19 rfl ?_
        refine g_callS1I d_S_set_20 ml_S_81 sk_S_mostOf rfl (Nat.le_of_ble_eq_true rfl) (w_S_mostOf (X := X) (d := d) _ _) (fun q8 => ?_)
        refine s_icmp_le d_S_set_23 (fun u9 => ?_) (fun u9 => ?_)
        · refine g_aload_n d_S_set_32 rfl ?_
          refine g_getR d_S_set_33 fl_S_26 rfl rfl ?_
          refine g_getR d_S_set_36 fl_S_71 rfl rfl ?_
          refine g_iload_n d_S_set_39 rfl ?_
          refine g_guard (fun hb10 => ?_)
          refine g_ild d_S_set_40 rfl hb10 rfl ?_
          refine g_istore_n d_S_set_41 (by decide) ?_
          refine g_aload_n d_S_set_42 rfl ?_
          refine g_getR d_S_set_43 fl_S_26 rfl rfl ?_
          refine g_getR d_S_set_46 fl_S_71 rfl rfl ?_
          refine g_iload_n d_S_set_49 rfl ?_
          refine g_iload_n d_S_set_50 rfl ?_
          refine g_ist d_S_set_51 rfl hb10 rfl ?_
          refine g_iload_n d_S_set_52 rfl ?_
          exact g_ireturn d_S_set_53 rfl rfl rfl
        · refine g_aload_n d_S_set_26 rfl ?_
          refine g_iconst d_S_set_27 ?_
          refine g_callV1I d_S_set_28 ml_S_67 vk_S_finding rfl ⟨_, rfl, rfl⟩ rfl (Nat.le_of_ble_eq_true rfl) (w_S_finding (X := X) (d := d) _ _) (fun q13 => ?_)
          exact g_ireturn d_S_set_31 rfl rfl rfl
def f_S_now (p1 : Int32) (S : St) : Option (Int32 × St) := (if p1 < 0 then (if p1 = 8 then ((f_L_hour 2 3 4 S).bind fun q3 => some (q3.1, q3.2)) else (if p1 = 9 then ((f_L_heat 2 3 4 S).bind fun q5 => some (q5.1, q5.2)) else (if p1 = 10 then ((f_L_weight 2 3 4 S).bind fun q7 => some (q7.1, q7.2)) else (if p1 = 11 then ((f_L_isOut 2 3 4 S).bind fun q9 => let x11 : Int32 := (if (bI q9.1) = 0 then 0 else 1); some (x11, q9.2)) else (if p1 = 12 then some ((S 4 8), S) else (if p1 = 13 then some ((S 4 9), S) else ((f_S_finding 0 S).bind fun q14 => some (q14.1, q14.2)))))))) else (if 7 < p1 then (if p1 = 8 then ((f_L_hour 2 3 4 S).bind fun q17 => some (q17.1, q17.2)) else (if p1 = 9 then ((f_L_heat 2 3 4 S).bind fun q19 => some (q19.1, q19.2)) else (if p1 = 10 then ((f_L_weight 2 3 4 S).bind fun q21 => some (q21.1, q21.2)) else (if p1 = 11 then ((f_L_isOut 2 3 4 S).bind fun q23 => let x25 : Int32 := (if (bI q23.1) = 0 then 0 else 1); some (x25, q23.2)) else (if p1 = 12 then some ((S 4 8), S) else (if p1 = 13 then some ((S 4 9), S) else ((f_S_finding 0 S).bind fun q28 => some (q28.1, q28.2)))))))) else (if inb p1 10 = true then some ((S 4 (p1).toNatClampNeg), S) else none)))
set_option maxRecDepth 4000 in
theorem w_S_now {X : xC} {d : Nat}  (p1 : Int32) (S : St) : SemG eI X k_S_now (d + 2) 0 [some (.ref (xB X + 0)), some (.int p1)] [] S (f_S_now  p1 S) := by
  unfold f_S_now
  refine g_iload_n d_S_now_0 rfl ?_
  refine s_if_lt d_S_now_1 (fun u1 => ?_) (fun u1 => ?_)
  · refine g_iload_n d_S_now_20 rfl ?_
    refine g_ite (fun u2 => ?_) (fun u2 => ?_)
    · refine g_tcase (off := 39) (tgt := 60) d_S_now_21 u2 (by decide) ?_
      refine g_aload_n d_S_now_60 rfl ?_
      refine g_getR d_S_now_61 fl_S_26 rfl rfl ?_
      refine g_callV0I d_S_now_64 ml_S_84 vk_L_hour rfl ⟨_, rfl, rfl⟩ (Nat.le_of_ble_eq_true rfl) (w_L_hour (X := X) (d := d + 1) rfl rfl rfl _) (fun q3 => ?_)
      exact g_ireturn d_S_now_67 rfl rfl rfl
    refine g_ite (fun u4 => ?_) (fun u4 => ?_)
    · refine g_tcase (off := 47) (tgt := 68) d_S_now_21 u4 (by decide) ?_
      refine g_aload_n d_S_now_68 rfl ?_
      refine g_getR d_S_now_69 fl_S_26 rfl rfl ?_
      refine g_callV0I d_S_now_72 ml_S_88 vk_L_heat rfl ⟨_, rfl, rfl⟩ (Nat.le_of_ble_eq_true rfl) (w_L_heat (X := X) (d := d) rfl rfl rfl _) (fun q5 => ?_)
      exact g_ireturn d_S_now_75 rfl rfl rfl
    refine g_ite (fun u6 => ?_) (fun u6 => ?_)
    · refine g_tcase (off := 55) (tgt := 76) d_S_now_21 u6 (by decide) ?_
      refine g_aload_n d_S_now_76 rfl ?_
      refine g_getR d_S_now_77 fl_S_26 rfl rfl ?_
      refine g_callV0I d_S_now_80 ml_S_91 vk_L_weight rfl ⟨_, rfl, rfl⟩ (Nat.le_of_ble_eq_true rfl) (w_L_weight (X := X) (d := d) rfl rfl rfl _) (fun q7 => ?_)
      exact g_ireturn d_S_now_83 rfl rfl rfl
    refine g_ite (fun u8 => ?_) (fun u8 => ?_)
    · refine g_tcase (off := 63) (tgt := 84) d_S_now_21 u8 (by decide) ?_
      refine g_aload_n d_S_now_84 rfl ?_
      refine g_getR d_S_now_85 fl_S_26 rfl rfl ?_
      refine g_callV0B d_S_now_88 ml_S_94 vk_L_isOut rfl ⟨_, rfl, rfl⟩ (Nat.le_of_ble_eq_true rfl) (w_L_isOut (X := X) (d := d) rfl rfl rfl _) (fun q9 => ?_)
      refine m_if_eq d_S_now_91 (fun hJ10 => g_iconst d_S_now_98 hJ10) (fun hJ10 => g_iconst d_S_now_94 (g_goto d_S_now_95 hJ10)) ?_
      exact g_ireturn d_S_now_99 rfl rfl rfl
    refine g_ite (fun u12 => ?_) (fun u12 => ?_)
    · refine g_tcase (off := 79) (tgt := 100) d_S_now_21 u12 (by decide) ?_
      refine g_aload_n d_S_now_100 rfl ?_
      refine g_getR d_S_now_101 fl_S_26 rfl rfl ?_
      refine g_getR d_S_now_104 fl_S_71 rfl rfl ?_
      refine g_bipush d_S_now_107 ?_
      refine g_ild d_S_now_109 rfl il_8_10.1 il_8_10.2 ?_
      exact g_ireturn d_S_now_110 rfl rfl rfl
    refine g_ite (fun u13 => ?_) (fun u13 => ?_)
    · refine g_tcase (off := 90) (tgt := 111) d_S_now_21 u13 (by decide) ?_
      refine g_aload_n d_S_now_111 rfl ?_
      refine g_getR d_S_now_112 fl_S_26 rfl rfl ?_
      refine g_getR d_S_now_115 fl_S_71 rfl rfl ?_
      refine g_bipush d_S_now_118 ?_
      refine g_ild d_S_now_120 rfl il_9_10.1 il_9_10.2 ?_
      exact g_ireturn d_S_now_121 rfl rfl rfl
    have eu2 := ne32 (n := 8) u2 (by decide)
    have eu4 := ne32 (n := 9) u4 (by decide)
    have eu6 := ne32 (n := 10) u6 (by decide)
    have eu8 := ne32 (n := 11) u8 (by decide)
    have eu12 := ne32 (n := 12) u12 (by decide)
    have eu13 := ne32 (n := 13) u13 (by decide)
    refine g_tdef (tgt := 122) d_S_now_21 (by omega) (by decide) ?_
    refine g_aload_n d_S_now_122 rfl ?_
    refine g_iconst d_S_now_123 ?_
    refine g_callV1I d_S_now_124 ml_S_67 vk_S_finding rfl ⟨_, rfl, rfl⟩ rfl (Nat.le_of_ble_eq_true rfl) (w_S_finding (X := X) (d := d + 1) _ _) (fun q14 => ?_)
    exact g_ireturn d_S_now_127 rfl rfl rfl
  · refine g_iload_n d_S_now_4 rfl ?_
    refine g_bipush d_S_now_5 ?_
    refine s_icmp_gt d_S_now_7 (fun u15 => ?_) (fun u15 => ?_)
    · refine g_iload_n d_S_now_20 rfl ?_
      refine g_ite (fun u16 => ?_) (fun u16 => ?_)
      · refine g_tcase (off := 39) (tgt := 60) d_S_now_21 u16 (by decide) ?_
        refine g_aload_n d_S_now_60 rfl ?_
        refine g_getR d_S_now_61 fl_S_26 rfl rfl ?_
        refine g_callV0I d_S_now_64 ml_S_84 vk_L_hour rfl ⟨_, rfl, rfl⟩ (Nat.le_of_ble_eq_true rfl) (w_L_hour (X := X) (d := d + 1) rfl rfl rfl _) (fun q17 => ?_)
        exact g_ireturn d_S_now_67 rfl rfl rfl
      refine g_ite (fun u18 => ?_) (fun u18 => ?_)
      · refine g_tcase (off := 47) (tgt := 68) d_S_now_21 u18 (by decide) ?_
        refine g_aload_n d_S_now_68 rfl ?_
        refine g_getR d_S_now_69 fl_S_26 rfl rfl ?_
        refine g_callV0I d_S_now_72 ml_S_88 vk_L_heat rfl ⟨_, rfl, rfl⟩ (Nat.le_of_ble_eq_true rfl) (w_L_heat (X := X) (d := d) rfl rfl rfl _) (fun q19 => ?_)
        exact g_ireturn d_S_now_75 rfl rfl rfl
      refine g_ite (fun u20 => ?_) (fun u20 => ?_)
      · refine g_tcase (off := 55) (tgt := 76) d_S_now_21 u20 (by decide) ?_
        refine g_aload_n d_S_now_76 rfl ?_
        refine g_getR d_S_now_77 fl_S_26 rfl rfl ?_
        refine g_callV0I d_S_now_80 ml_S_91 vk_L_weight rfl ⟨_, rfl, rfl⟩ (Nat.le_of_ble_eq_true rfl) (w_L_weight (X := X) (d := d) rfl rfl rfl _) (fun q21 => ?_)
        exact g_ireturn d_S_now_83 rfl rfl rfl
      refine g_ite (fun u22 => ?_) (fun u22 => ?_)
      · refine g_tcase (off := 63) (tgt := 84) d_S_now_21 u22 (by decide) ?_
        refine g_aload_n d_S_now_84 rfl ?_
        refine g_getR d_S_now_85 fl_S_26 rfl rfl ?_
        refine g_callV0B d_S_now_88 ml_S_94 vk_L_isOut rfl ⟨_, rfl, rfl⟩ (Nat.le_of_ble_eq_true rfl) (w_L_isOut (X := X) (d := d) rfl rfl rfl _) (fun q23 => ?_)
        refine m_if_eq d_S_now_91 (fun hJ24 => g_iconst d_S_now_98 hJ24) (fun hJ24 => g_iconst d_S_now_94 (g_goto d_S_now_95 hJ24)) ?_
        exact g_ireturn d_S_now_99 rfl rfl rfl
      refine g_ite (fun u26 => ?_) (fun u26 => ?_)
      · refine g_tcase (off := 79) (tgt := 100) d_S_now_21 u26 (by decide) ?_
        refine g_aload_n d_S_now_100 rfl ?_
        refine g_getR d_S_now_101 fl_S_26 rfl rfl ?_
        refine g_getR d_S_now_104 fl_S_71 rfl rfl ?_
        refine g_bipush d_S_now_107 ?_
        refine g_ild d_S_now_109 rfl il_8_10.1 il_8_10.2 ?_
        exact g_ireturn d_S_now_110 rfl rfl rfl
      refine g_ite (fun u27 => ?_) (fun u27 => ?_)
      · refine g_tcase (off := 90) (tgt := 111) d_S_now_21 u27 (by decide) ?_
        refine g_aload_n d_S_now_111 rfl ?_
        refine g_getR d_S_now_112 fl_S_26 rfl rfl ?_
        refine g_getR d_S_now_115 fl_S_71 rfl rfl ?_
        refine g_bipush d_S_now_118 ?_
        refine g_ild d_S_now_120 rfl il_9_10.1 il_9_10.2 ?_
        exact g_ireturn d_S_now_121 rfl rfl rfl
      have eu16 := ne32 (n := 8) u16 (by decide)
      have eu18 := ne32 (n := 9) u18 (by decide)
      have eu20 := ne32 (n := 10) u20 (by decide)
      have eu22 := ne32 (n := 11) u22 (by decide)
      have eu26 := ne32 (n := 12) u26 (by decide)
      have eu27 := ne32 (n := 13) u27 (by decide)
      refine g_tdef (tgt := 122) d_S_now_21 (by omega) (by decide) ?_
      refine g_aload_n d_S_now_122 rfl ?_
      refine g_iconst d_S_now_123 ?_
      refine g_callV1I d_S_now_124 ml_S_67 vk_S_finding rfl ⟨_, rfl, rfl⟩ rfl (Nat.le_of_ble_eq_true rfl) (w_S_finding (X := X) (d := d + 1) _ _) (fun q28 => ?_)
      exact g_ireturn d_S_now_127 rfl rfl rfl
    · refine g_aload_n d_S_now_10 rfl ?_
      refine g_getR d_S_now_11 fl_S_26 rfl rfl ?_
      refine g_getR d_S_now_14 fl_S_71 rfl rfl ?_
      refine g_iload_n d_S_now_17 rfl ?_
      refine g_guard (fun hb29 => ?_)
      refine g_ild d_S_now_18 rfl hb29 rfl ?_
      exact g_ireturn d_S_now_19 rfl rfl rfl
def f_S_soft_L36 : Nat → Int32 → Int32 → Int32 → Int32 → Int32 → Int32 → St → Option (Int32 × St)
  | 0, _, _, _, _, _, _, _ => none
  | n + 1, y1, y2, y3, y4, y5, y6, S => (if 40 ≤ y6 then let x10 : Int32 := (if y2 = 0 then y3 else y4); some (x10, S) else (if inb y6 40 = true then let x13 : Int32 := (if y1 ≤ (S 3 (y6).toNatClampNeg) then 0 else (y5 + 1)); (if x13 ≤ y3 then f_S_soft_L36   n y1 y2 y3 y4 x13 (y6 + 1) S else let x15 : Int32 := ((y6 - x13) + 1); f_S_soft_L36   n y1 y2 x13 x15 x13 (y6 + 1) S) else none))
set_option maxRecDepth 4000 in
theorem w_S_soft_L36 {X : xC} {d : Nat}   : ∀ (n : Nat) (y1 : Int32) (y2 : Int32) (y3 : Int32) (y4 : Int32) (y5 : Int32) (y6 : Int32) (S : St), SemG eI X k_S_soft (d + 1) 36 [some (.ref (xB X + 0)), some (.int y1), some (.int y2), some (.int y3), some (.int y4), some (.int y5), some (.int y6)] [] S (f_S_soft_L36   n y1 y2 y3 y4 y5 y6 S) := by
  intro n
  induction n with
  | zero => intro _ _ _ _ _ _ _; exact g_none
  | succ n ih =>
    intro y1 y2 y3 y4 y5 y6 S
    unfold f_S_soft_L36
    refine g_iload d_S_soft_36 rfl ?_
    refine g_bipush d_S_soft_38 ?_
    refine s_icmp_ge d_S_soft_40 (fun u8 => ?_) (fun u8 => ?_)
    · refine g_iload_n d_S_soft_91 rfl ?_
      refine m_if_ne d_S_soft_92 (fun hJ9 => g_iload d_S_soft_99 rfl hJ9) (fun hJ9 => g_iload_n d_S_soft_95 rfl (g_goto d_S_soft_96 hJ9)) ?_
      exact g_ireturn d_S_soft_101 rfl rfl rfl
    · refine g_aload_n d_S_soft_43 rfl ?_
      refine g_getR d_S_soft_44 fl_S_10 rfl rfl ?_
      refine g_getR d_S_soft_47 fl_S_29 rfl rfl ?_
      refine g_iload d_S_soft_50 rfl ?_
      refine g_guard (fun hb11 => ?_)
      refine g_ild d_S_soft_52 rfl hb11 rfl ?_
      refine g_iload_n d_S_soft_53 rfl ?_
      refine m_icmp_ge d_S_soft_54 (fun hJ12 => g_iconst d_S_soft_64 hJ12) (fun hJ12 => g_iload d_S_soft_57 rfl (g_iconst d_S_soft_59 (g_iadd d_S_soft_60 (g_goto d_S_soft_61 hJ12)))) ?_
      refine g_istore d_S_soft_65 (by decide) ?_
      refine g_iload d_S_soft_67 rfl ?_
      refine g_iload_n d_S_soft_69 rfl ?_
      refine s_icmp_le d_S_soft_70 (fun u14 => ?_) (fun u14 => ?_)
      · refine g_iinc d_S_soft_85 (by decide) rfl ?_
        refine g_goto d_S_soft_88 ?_
        exact ih _ _ _ _ _ _ _
      · refine g_iload d_S_soft_73 rfl ?_
        refine g_istore_n d_S_soft_75 (by decide) ?_
        refine g_iload d_S_soft_76 rfl ?_
        refine g_iload d_S_soft_78 rfl ?_
        refine g_isub d_S_soft_80 ?_
        refine g_iconst d_S_soft_81 ?_
        refine g_iadd d_S_soft_82 ?_
        refine g_istore d_S_soft_83 (by decide) ?_
        refine g_iinc d_S_soft_85 (by decide) rfl ?_
        refine g_goto d_S_soft_88 ?_
        exact ih _ _ _ _ _ _ _
def f_S_soft (p1 p2 : Int32) (S : St) : Option (Int32 × St) := (if p1 < 0 then ((f_S_finding 0 S).bind fun q2 => some (q2.1, q2.2)) else (if 100 < p1 then ((f_S_finding 0 S).bind fun q4 => some (q4.1, q4.2)) else (if p2 < 0 then ((f_S_finding 0 S).bind fun q6 => some (q6.1, q6.2)) else (if p2 ≤ 1 then f_S_soft_L36   200 p1 p2 0 (-1) 0 0 S else ((f_S_finding 0 S).bind fun q16 => some (q16.1, q16.2))))))
set_option maxRecDepth 4000 in
theorem w_S_soft {X : xC} {d : Nat}  (p1 p2 : Int32) (S : St) : SemG eI X k_S_soft (d + 1) 0 [some (.ref (xB X + 0)), some (.int p1), some (.int p2), none, none, none, none] [] S (f_S_soft  p1 p2 S) := by
  unfold f_S_soft
  refine g_iload_n d_S_soft_0 rfl ?_
  refine s_if_lt d_S_soft_1 (fun u1 => ?_) (fun u1 => ?_)
  · refine g_aload_n d_S_soft_19 rfl ?_
    refine g_iconst d_S_soft_20 ?_
    refine g_callV1I d_S_soft_21 ml_S_67 vk_S_finding rfl ⟨_, rfl, rfl⟩ rfl (Nat.le_of_ble_eq_true rfl) (w_S_finding (X := X) (d := d) _ _) (fun q2 => ?_)
    exact g_ireturn d_S_soft_24 rfl rfl rfl
  · refine g_iload_n d_S_soft_4 rfl ?_
    refine g_bipush d_S_soft_5 ?_
    refine s_icmp_gt d_S_soft_7 (fun u3 => ?_) (fun u3 => ?_)
    · refine g_aload_n d_S_soft_19 rfl ?_
      refine g_iconst d_S_soft_20 ?_
      refine g_callV1I d_S_soft_21 ml_S_67 vk_S_finding rfl ⟨_, rfl, rfl⟩ rfl (Nat.le_of_ble_eq_true rfl) (w_S_finding (X := X) (d := d) _ _) (fun q4 => ?_)
      exact g_ireturn d_S_soft_24 rfl rfl rfl
    · refine g_iload_n d_S_soft_10 rfl ?_
      refine s_if_lt d_S_soft_11 (fun u5 => ?_) (fun u5 => ?_)
      · refine g_aload_n d_S_soft_19 rfl ?_
        refine g_iconst d_S_soft_20 ?_
        refine g_callV1I d_S_soft_21 ml_S_67 vk_S_finding rfl ⟨_, rfl, rfl⟩ rfl (Nat.le_of_ble_eq_true rfl) (w_S_finding (X := X) (d := d) _ _) (fun q6 => ?_)
        exact g_ireturn d_S_soft_24 rfl rfl rfl
      · refine g_iload_n d_S_soft_14 rfl ?_
        refine g_iconst d_S_soft_15 ?_
        refine s_icmp_le d_S_soft_16 (fun u7 => ?_) (fun u7 => ?_)
        · refine g_iconst d_S_soft_25 ?_
          refine g_istore_n d_S_soft_26 (by decide) ?_
          refine g_iconst d_S_soft_27 ?_
          refine g_istore d_S_soft_28 (by decide) ?_
          refine g_iconst d_S_soft_30 ?_
          refine g_istore d_S_soft_31 (by decide) ?_
          refine g_iconst d_S_soft_33 ?_
          refine g_istore d_S_soft_34 (by decide) ?_
          exact w_S_soft_L36 (X := X) (d := d) 200 _ _ _ _ _ _ _
        · refine g_aload_n d_S_soft_19 rfl ?_
          refine g_iconst d_S_soft_20 ?_
          refine g_callV1I d_S_soft_21 ml_S_67 vk_S_finding rfl ⟨_, rfl, rfl⟩ rfl (Nat.le_of_ble_eq_true rfl) (w_S_finding (X := X) (d := d) _ _) (fun q16 => ?_)
          exact g_ireturn d_S_soft_24 rfl rfl rfl
def f_C_firmInAll_L4 : Nat → Int32 → Int32 → St → Option (Int32 × St)
  | 0, _, _, _ => none
  | n + 1, y1, y2, S => (if 40 ≤ y2 then some (y1, S) else (if inb y2 40 = true then let x3 : Int32 := (y1 + (S 3 (y2).toNatClampNeg)); f_C_firmInAll_L4   n x3 (y2 + 1) S else none))
set_option maxRecDepth 4000 in
theorem w_C_firmInAll_L4 {X : xC} {d : Nat}   : ∀ (n : Nat) (y1 : Int32) (y2 : Int32) (S : St), SemG eI X k_C_firmInAll (d) 4 [some (.ref (xB X + 1)), some (.int y1), some (.int y2)] [] S (f_C_firmInAll_L4   n y1 y2 S) := by
  intro n
  induction n with
  | zero => intro _ _ _; exact g_none
  | succ n ih =>
    intro y1 y2 S
    unfold f_C_firmInAll_L4
    refine g_iload_n d_C_firmInAll_4 rfl ?_
    refine g_bipush d_C_firmInAll_5 ?_
    refine s_icmp_ge d_C_firmInAll_7 (fun u1 => ?_) (fun u1 => ?_)
    · refine g_iload_n d_C_firmInAll_25 rfl ?_
      exact g_ireturn d_C_firmInAll_26 rfl rfl rfl
    · refine g_iload_n d_C_firmInAll_10 rfl ?_
      refine g_aload_n d_C_firmInAll_11 rfl ?_
      refine g_getR d_C_firmInAll_12 fl_C_24 rfl rfl ?_
      refine g_iload_n d_C_firmInAll_15 rfl ?_
      refine g_guard (fun hb2 => ?_)
      refine g_ild d_C_firmInAll_16 rfl hb2 rfl ?_
      refine g_iadd d_C_firmInAll_17 ?_
      refine g_istore_n d_C_firmInAll_18 (by decide) ?_
      refine g_iinc d_C_firmInAll_19 (by decide) rfl ?_
      refine g_goto d_C_firmInAll_22 ?_
      exact ih _ _ _
def f_C_firmInAll (S : St) : Option (Int32 × St) := f_C_firmInAll_L4   200 0 0 S
set_option maxRecDepth 4000 in
theorem w_C_firmInAll {X : xC} {d : Nat}  (S : St) : SemG eI X k_C_firmInAll (d) 0 [some (.ref (xB X + 1)), none, none] [] S (f_C_firmInAll   S) := by
  unfold f_C_firmInAll
  refine g_iconst d_C_firmInAll_0 ?_
  refine g_istore_n d_C_firmInAll_1 (by decide) ?_
  refine g_iconst d_C_firmInAll_2 ?_
  refine g_istore_n d_C_firmInAll_3 (by decide) ?_
  exact w_C_firmInAll_L4 (X := X) (d := d) 200 _ _ _
def f_C_draw (S : St) : Option (Int32 × St) := let S1 := put S 1 6 (((S 1 6) * 1103515245) + 12345); some ((((S1 1 6)).toUInt32 >>> (Int32.toUInt32 8 &&& Int32.toUInt32 31)).toInt32, S1)
set_option maxRecDepth 4000 in
theorem w_C_draw {X : xC} {d : Nat}  (S : St) : SemG eI X k_C_draw (d) 0 [some (.ref (xB X + 1))] [] S (f_C_draw   S) := by
  unfold f_C_draw
  refine g_aload_n d_C_draw_0 rfl ?_
  refine g_aload_n d_C_draw_1 rfl ?_
  refine g_getI d_C_draw_2 fl_C_34 rfl rfl ?_
  refine g_ldc d_C_draw_5 cn_C_57 ?_
  refine g_imul d_C_draw_7 ?_
  refine g_sipush d_C_draw_8 ?_
  refine g_iadd d_C_draw_11 ?_
  refine g_putI d_C_draw_12 fl_C_34 ⟨_, rfl, rfl⟩ rfl rfl rfl rfl ?_
  refine g_aload_n d_C_draw_15 rfl ?_
  refine g_getI d_C_draw_16 fl_C_34 rfl rfl ?_
  refine g_bipush d_C_draw_19 ?_
  refine g_iushr d_C_draw_21 ?_
  exact g_ireturn d_C_draw_22 rfl rfl rfl
def f_S_wind_L19 : Nat → Int32 → Int32 → St → Option (Int32 × St)
  | 0, _, _, _ => none
  | n + 1, y1, y2, S => (if y1 ≤ y2 then ((f_C_firmInAll S).bind fun q5 => some (q5.1, q5.2)) else ((f_C_draw S).bind fun q6 => let x7 : Int32 := (q6.1 - q6.1 / 40 * 40); ((f_C_draw q6.2).bind fun q8 => let x9 : Int32 := (q8.1 - q8.1 / 100 * 100); ((f_S_isYard x7 q8.2).bind fun q10 => (if (bI q10.1) = 0 then f_S_wind_L19   n y1 (y2 + 1) q10.2 else (if inb x7 40 = true then let S13 := put q10.2 3 (x7).toNatClampNeg x9; f_S_wind_L19   n y1 (y2 + 1) S13 else none))))))
set_option maxRecDepth 4000 in
theorem w_S_wind_L19 {X : xC} {d : Nat}   : ∀ (n : Nat) (y1 : Int32) (y2 : Int32) (S : St), SemG eI X k_S_wind (d + 1) 19 [some (.ref (xB X + 0)), some (.int y1), some (.int y2), none, none] [] S (f_S_wind_L19   n y1 y2 S) := by
  intro n
  induction n with
  | zero => intro _ _ _; exact g_none
  | succ n ih =>
    intro y1 y2 S
    unfold f_S_wind_L19
    refine g_iload_n d_S_wind_19 rfl ?_
    refine g_iload_n d_S_wind_20 rfl ?_
    refine s_icmp_ge d_S_wind_21 (fun u4 => ?_) (fun u4 => ?_)
    · refine g_aload_n d_S_wind_71 rfl ?_
      refine g_getR d_S_wind_72 fl_S_10 rfl rfl ?_
      refine g_callV0I d_S_wind_75 ml_S_101 vk_C_firmInAll rfl ⟨_, rfl, rfl⟩ (Nat.le_of_ble_eq_true rfl) (w_C_firmInAll (X := X) (d := d) _) (fun q5 => ?_)
      exact g_ireturn d_S_wind_78 rfl rfl rfl
    · refine g_aload_n d_S_wind_24 rfl ?_
      refine g_getR d_S_wind_25 fl_S_10 rfl rfl ?_
      refine g_callV0I d_S_wind_28 ml_S_98 vk_C_draw rfl ⟨_, rfl, rfl⟩ (Nat.le_of_ble_eq_true rfl) (w_C_draw (X := X) (d := d) _) (fun q6 => ?_)
      refine g_bipush d_S_wind_31 ?_
      refine g_irem d_S_wind_33 (by decide) ?_
      refine g_istore_n d_S_wind_34 (by decide) ?_
      refine g_aload_n d_S_wind_35 rfl ?_
      refine g_getR d_S_wind_36 fl_S_10 rfl rfl ?_
      refine g_callV0I d_S_wind_39 ml_S_98 vk_C_draw rfl ⟨_, rfl, rfl⟩ (Nat.le_of_ble_eq_true rfl) (w_C_draw (X := X) (d := d) _) (fun q8 => ?_)
      refine g_bipush d_S_wind_42 ?_
      refine g_irem d_S_wind_44 (by decide) ?_
      refine g_istore d_S_wind_45 (by decide) ?_
      refine g_iload_n d_S_wind_47 rfl ?_
      refine g_callS1B d_S_wind_48 ml_S_63 sk_S_isYard rfl (Nat.le_of_ble_eq_true rfl) (w_S_isYard (X := X) (d := d) _ _) (fun q10 => ?_)
      refine s_if_eq d_S_wind_51 (fun u11 => ?_) (fun u11 => ?_)
      · refine g_iinc d_S_wind_65 (by decide) rfl ?_
        refine g_goto d_S_wind_68 ?_
        refine g_drop 3 ?_
        refine g_drop 4 ?_
        exact ih _ _ _
      · refine g_aload_n d_S_wind_54 rfl ?_
        refine g_getR d_S_wind_55 fl_S_10 rfl rfl ?_
        refine g_getR d_S_wind_58 fl_S_29 rfl rfl ?_
        refine g_iload_n d_S_wind_61 rfl ?_
        refine g_iload d_S_wind_62 rfl ?_
        refine g_guard (fun hb12 => ?_)
        refine g_ist d_S_wind_64 rfl hb12 rfl ?_
        refine g_iinc d_S_wind_65 (by decide) rfl ?_
        refine g_goto d_S_wind_68 ?_
        refine g_drop 3 ?_
        refine g_drop 4 ?_
        exact ih _ _ _
def f_S_wind (p1 : Int32) (S : St) : Option (Int32 × St) := (if p1 < 1 then ((f_S_finding 0 S).bind fun q2 => some (q2.1, q2.2)) else (if p1 ≤ 60 then f_S_wind_L19   200 p1 0 S else ((f_S_finding 0 S).bind fun q14 => some (q14.1, q14.2))))
set_option maxRecDepth 4000 in
theorem w_S_wind {X : xC} {d : Nat}  (p1 : Int32) (S : St) : SemG eI X k_S_wind (d + 1) 0 [some (.ref (xB X + 0)), some (.int p1), none, none, none] [] S (f_S_wind  p1 S) := by
  unfold f_S_wind
  refine g_iload_n d_S_wind_0 rfl ?_
  refine g_iconst d_S_wind_1 ?_
  refine s_icmp_lt d_S_wind_2 (fun u1 => ?_) (fun u1 => ?_)
  · refine g_aload_n d_S_wind_11 rfl ?_
    refine g_iconst d_S_wind_12 ?_
    refine g_callV1I d_S_wind_13 ml_S_67 vk_S_finding rfl ⟨_, rfl, rfl⟩ rfl (Nat.le_of_ble_eq_true rfl) (w_S_finding (X := X) (d := d) _ _) (fun q2 => ?_)
    exact g_ireturn d_S_wind_16 rfl rfl rfl
  · refine g_iload_n d_S_wind_5 rfl ?_
    refine g_bipush d_S_wind_6 ?_
    refine s_icmp_le d_S_wind_8 (fun u3 => ?_) (fun u3 => ?_)
    · refine g_iconst d_S_wind_17 ?_
      refine g_istore_n d_S_wind_18 (by decide) ?_
      exact w_S_wind_L19 (X := X) (d := d) 200 _ _ _
    · refine g_aload_n d_S_wind_11 rfl ?_
      refine g_iconst d_S_wind_12 ?_
      refine g_callV1I d_S_wind_13 ml_S_67 vk_S_finding rfl ⟨_, rfl, rfl⟩ rfl (Nat.le_of_ble_eq_true rfl) (w_S_finding (X := X) (d := d) _ _) (fun q14 => ?_)
      exact g_ireturn d_S_wind_16 rfl rfl rfl
def f_S_isSlot (p1 : Int32) (S : St) : Option (Bool × St) := let x3 : Int32 := (if p1 < 0 then 0 else (if 10 ≤ p1 then 0 else 1)); some ((if p1 < 0 then false else (if 10 ≤ p1 then false else true)), S)
set_option maxRecDepth 4000 in
theorem w_S_isSlot {X : xC} {d : Nat}  (p1 : Int32) (S : St) : SemG eB X k_S_isSlot (d) 0 [some (.int p1)] [] S (f_S_isSlot  p1 S) := by
  unfold f_S_isSlot
  refine g_iload_n d_S_isSlot_0 rfl ?_
  refine m_if_lt d_S_isSlot_1 (fun hJ2 => g_iconst d_S_isSlot_14 hJ2) (fun hJ2 => g_iload_n d_S_isSlot_4 rfl (g_bipush d_S_isSlot_5 (m_icmp_ge d_S_isSlot_7 (fun hJ1 => g_iconst d_S_isSlot_14 hJ1) (fun hJ1 => g_iconst d_S_isSlot_10 (g_goto d_S_isSlot_11 hJ1)) hJ2))) ?_
  refine g_zreturn d_S_isSlot_15 rfl ?_ rfl
  (repeat' split) <;> rfl
def f_S_effort (p1 p2 : Int32) (S : St) : Option (Int32 × St) := ((f_S_isSlot p1 S).bind fun q1 => (if (bI q1.1) = 0 then ((f_S_finding 0 q1.2).bind fun q3 => some (q3.1, q3.2)) else (if p2 < (-1) then ((f_S_finding 0 q1.2).bind fun q5 => some (q5.1, q5.2)) else (if p2 < 8 then (if inb p1 10 = true then let S8 := put q1.2 5 (p1).toNatClampNeg p2; some (1, S8) else none) else ((f_S_finding 0 q1.2).bind fun q9 => some (q9.1, q9.2))))))
set_option maxRecDepth 4000 in
theorem w_S_effort {X : xC} {d : Nat}  (p1 p2 : Int32) (S : St) : SemG eI X k_S_effort (d + 1) 0 [some (.ref (xB X + 0)), some (.int p1), some (.int p2)] [] S (f_S_effort  p1 p2 S) := by
  unfold f_S_effort
  refine g_iload_n d_S_effort_0 rfl ?_
  refine g_callS1B d_S_effort_1 ml_S_104 sk_S_isSlot rfl (Nat.le_of_ble_eq_true rfl) (w_S_isSlot (X := X) (d := d) _ _) (fun q1 => ?_)
  refine s_if_eq d_S_effort_4 (fun u2 => ?_) (fun u2 => ?_)
  · refine g_aload_n d_S_effort_18 rfl ?_
    refine g_iconst d_S_effort_19 ?_
    refine g_callV1I d_S_effort_20 ml_S_67 vk_S_finding rfl ⟨_, rfl, rfl⟩ rfl (Nat.le_of_ble_eq_true rfl) (w_S_finding (X := X) (d := d) _ _) (fun q3 => ?_)
    exact g_ireturn d_S_effort_23 rfl rfl rfl
  · refine g_iload_n d_S_effort_7 rfl ?_
    refine g_iconst d_S_effort_8 ?_
    refine s_icmp_lt d_S_effort_9 (fun u4 => ?_) (fun u4 => ?_)
    · refine g_aload_n d_S_effort_18 rfl ?_
      refine g_iconst d_S_effort_19 ?_
      refine g_callV1I d_S_effort_20 ml_S_67 vk_S_finding rfl ⟨_, rfl, rfl⟩ rfl (Nat.le_of_ble_eq_true rfl) (w_S_finding (X := X) (d := d) _ _) (fun q5 => ?_)
      exact g_ireturn d_S_effort_23 rfl rfl rfl
    · refine g_iload_n d_S_effort_12 rfl ?_
      refine g_bipush d_S_effort_13 ?_
      refine s_icmp_lt d_S_effort_15 (fun u6 => ?_) (fun u6 => ?_)
      · refine g_aload_n d_S_effort_24 rfl ?_
        refine g_getR d_S_effort_25 fl_S_10 rfl rfl ?_
        refine g_getR d_S_effort_28 fl_S_107 rfl rfl ?_
        refine g_iload_n d_S_effort_31 rfl ?_
        refine g_iload_n d_S_effort_32 rfl ?_
        refine g_guard (fun hb7 => ?_)
        refine g_ist d_S_effort_33 rfl hb7 rfl ?_
        refine g_iconst d_S_effort_34 ?_
        exact g_ireturn d_S_effort_35 rfl rfl rfl
      · refine g_aload_n d_S_effort_18 rfl ?_
        refine g_iconst d_S_effort_19 ?_
        refine g_callV1I d_S_effort_20 ml_S_67 vk_S_finding rfl ⟨_, rfl, rfl⟩ rfl (Nat.le_of_ble_eq_true rfl) (w_S_finding (X := X) (d := d) _ _) (fun q9 => ?_)
        exact g_ireturn d_S_effort_23 rfl rfl rfl
def f_S_effortOf (p1 p2 : Int32) (S : St) : Option (Int32 × St) := ((f_S_isSlot p1 S).bind fun q1 => (if (bI q1.1) = 0 then ((f_S_finding 0 q1.2).bind fun q3 => some (q3.1, q3.2)) else (if p2 < 0 then ((f_S_finding 0 q1.2).bind fun q5 => some (q5.1, q5.2)) else (if p2 ≤ 3 then (if inb p1 10 = true then let x8 : Int32 := (q1.2 5 (p1).toNatClampNeg); (if x8 = (-1) then ((f_S_finding 3 q1.2).bind fun q16 => some (q16.1, q16.2)) else (if p2 = 0 then some (x8, q1.2) else (if p2 = 1 then ((f_L_minutesOf 2 3 4 x8 q1.2).bind fun q12 => some (q12.1, q12.2)) else (if p2 = 2 then ((f_S_workOf x8 q1.2).bind fun q14 => some (q14.1, q14.2)) else ((f_L_drinkOf 2 3 4 x8 q1.2).bind fun q15 => some (q15.1, q15.2)))))) else none) else ((f_S_finding 0 q1.2).bind fun q17 => some (q17.1, q17.2))))))
set_option maxRecDepth 4000 in
theorem w_S_effortOf {X : xC} {d : Nat}  (p1 p2 : Int32) (S : St) : SemG eI X k_S_effortOf (d + 3) 0 [some (.ref (xB X + 0)), some (.int p1), some (.int p2), none] [] S (f_S_effortOf  p1 p2 S) := by
  unfold f_S_effortOf
  refine g_iload_n d_S_effortOf_0 rfl ?_
  refine g_callS1B d_S_effortOf_1 ml_S_104 sk_S_isSlot rfl (Nat.le_of_ble_eq_true rfl) (w_S_isSlot (X := X) (d := d + 2) _ _) (fun q1 => ?_)
  refine s_if_eq d_S_effortOf_4 (fun u2 => ?_) (fun u2 => ?_)
  · refine g_aload_n d_S_effortOf_16 rfl ?_
    refine g_iconst d_S_effortOf_17 ?_
    refine g_callV1I d_S_effortOf_18 ml_S_67 vk_S_finding rfl ⟨_, rfl, rfl⟩ rfl (Nat.le_of_ble_eq_true rfl) (w_S_finding (X := X) (d := d + 2) _ _) (fun q3 => ?_)
    exact g_ireturn d_S_effortOf_21 rfl rfl rfl
  · refine g_iload_n d_S_effortOf_7 rfl ?_
    refine s_if_lt d_S_effortOf_8 (fun u4 => ?_) (fun u4 => ?_)
    · refine g_aload_n d_S_effortOf_16 rfl ?_
      refine g_iconst d_S_effortOf_17 ?_
      refine g_callV1I d_S_effortOf_18 ml_S_67 vk_S_finding rfl ⟨_, rfl, rfl⟩ rfl (Nat.le_of_ble_eq_true rfl) (w_S_finding (X := X) (d := d + 2) _ _) (fun q5 => ?_)
      exact g_ireturn d_S_effortOf_21 rfl rfl rfl
    · refine g_iload_n d_S_effortOf_11 rfl ?_
      refine g_iconst d_S_effortOf_12 ?_
      refine s_icmp_le d_S_effortOf_13 (fun u6 => ?_) (fun u6 => ?_)
      · refine g_aload_n d_S_effortOf_22 rfl ?_
        refine g_getR d_S_effortOf_23 fl_S_10 rfl rfl ?_
        refine g_getR d_S_effortOf_26 fl_S_107 rfl rfl ?_
        refine g_iload_n d_S_effortOf_29 rfl ?_
        refine g_guard (fun hb7 => ?_)
        refine g_ild d_S_effortOf_30 rfl hb7 rfl ?_
        refine g_istore_n d_S_effortOf_31 (by decide) ?_
        refine g_iload_n d_S_effortOf_32 rfl ?_
        refine g_iconst d_S_effortOf_33 ?_
        refine s_icmp_ne d_S_effortOf_34 (fun u9 => ?_) (fun u9 => ?_)
        · refine g_iload_n d_S_effortOf_43 rfl ?_
          refine g_ite (fun u10 => ?_) (fun u10 => ?_)
          · refine g_tcase (off := 28) (tgt := 72) d_S_effortOf_44 u10 (by decide) ?_
            refine g_iload_n d_S_effortOf_72 rfl ?_
            exact g_ireturn d_S_effortOf_73 rfl rfl rfl
          refine g_ite (fun u11 => ?_) (fun u11 => ?_)
          · refine g_tcase (off := 30) (tgt := 74) d_S_effortOf_44 u11 (by decide) ?_
            refine g_aload_n d_S_effortOf_74 rfl ?_
            refine g_getR d_S_effortOf_75 fl_S_26 rfl rfl ?_
            refine g_iload_n d_S_effortOf_78 rfl ?_
            refine g_callV1I d_S_effortOf_79 ml_S_110 vk_L_minutesOf rfl ⟨_, rfl, rfl⟩ rfl (Nat.le_of_ble_eq_true rfl) (w_L_minutesOf (X := X) (d := d + 2) rfl rfl rfl _ _) (fun q12 => ?_)
            exact g_ireturn d_S_effortOf_82 rfl rfl rfl
          refine g_ite (fun u13 => ?_) (fun u13 => ?_)
          · refine g_tcase (off := 39) (tgt := 83) d_S_effortOf_44 u13 (by decide) ?_
            refine g_iload_n d_S_effortOf_83 rfl ?_
            refine g_callS1I d_S_effortOf_84 ml_S_113 sk_S_workOf rfl (Nat.le_of_ble_eq_true rfl) (w_S_workOf (X := X) (d := d + 2) _ _) (fun q14 => ?_)
            exact g_ireturn d_S_effortOf_87 rfl rfl rfl
          have eu10 := ne32 (n := 0) u10 (by decide)
          have eu11 := ne32 (n := 1) u11 (by decide)
          have eu13 := ne32 (n := 2) u13 (by decide)
          refine g_tdef (tgt := 88) d_S_effortOf_44 (by omega) (by decide) ?_
          refine g_aload_n d_S_effortOf_88 rfl ?_
          refine g_getR d_S_effortOf_89 fl_S_26 rfl rfl ?_
          refine g_iload_n d_S_effortOf_92 rfl ?_
          refine g_callV1I d_S_effortOf_93 ml_S_116 vk_L_drinkOf rfl ⟨_, rfl, rfl⟩ rfl (Nat.le_of_ble_eq_true rfl) (w_L_drinkOf (X := X) (d := d) rfl rfl rfl _ _) (fun q15 => ?_)
          exact g_ireturn d_S_effortOf_96 rfl rfl rfl
        · refine g_aload_n d_S_effortOf_37 rfl ?_
          refine g_iconst d_S_effortOf_38 ?_
          refine g_callV1I d_S_effortOf_39 ml_S_67 vk_S_finding rfl ⟨_, rfl, rfl⟩ rfl (Nat.le_of_ble_eq_true rfl) (w_S_finding (X := X) (d := d + 2) _ _) (fun q16 => ?_)
          exact g_ireturn d_S_effortOf_42 rfl rfl rfl
      · refine g_aload_n d_S_effortOf_16 rfl ?_
        refine g_iconst d_S_effortOf_17 ?_
        refine g_callV1I d_S_effortOf_18 ml_S_67 vk_S_finding rfl ⟨_, rfl, rfl⟩ rfl (Nat.le_of_ble_eq_true rfl) (w_S_finding (X := X) (d := d + 2) _ _) (fun q17 => ?_)
        exact g_ireturn d_S_effortOf_21 rfl rfl rfl
def f_S_go (p1 : Int32) (S : St) : Option (Int32 × St) := ((f_S_isSlot p1 S).bind fun q1 => (if (bI q1.1) = 0 then ((f_S_finding 0 q1.2).bind fun q10 => some (q10.1, q10.2)) else (if inb p1 10 = true then let x4 : Int32 := (q1.2 5 (p1).toNatClampNeg); (if x4 = (-1) then ((f_S_finding 3 q1.2).bind fun q9 => some (q9.1, q9.2)) else ((f_L_carriesOut 2 3 4 x4 q1.2).bind fun q6 => (if (bI q6.1) = 0 then ((f_S_finding 4 q6.2).bind fun q8 => some (q8.1, q8.2)) else some (((q6.2 4 0) - (q1.2 4 0)), q6.2)))) else none)))
set_option maxRecDepth 4000 in
theorem w_S_go {X : xC} {d : Nat}  (p1 : Int32) (S : St) : SemG eI X k_S_go (d + 5) 0 [some (.ref (xB X + 0)), some (.int p1), none, none] [] S (f_S_go  p1 S) := by
  unfold f_S_go
  refine g_iload_n d_S_go_0 rfl ?_
  refine g_callS1B d_S_go_1 ml_S_104 sk_S_isSlot rfl (Nat.le_of_ble_eq_true rfl) (w_S_isSlot (X := X) (d := d + 4) _ _) (fun q1 => ?_)
  refine s_if_ne d_S_go_4 (fun u2 => ?_) (fun u2 => ?_)
  · refine g_aload_n d_S_go_13 rfl ?_
    refine g_getR d_S_go_14 fl_S_10 rfl rfl ?_
    refine g_getR d_S_go_17 fl_S_107 rfl rfl ?_
    refine g_iload_n d_S_go_20 rfl ?_
    refine g_guard (fun hb3 => ?_)
    refine g_ild d_S_go_21 rfl hb3 rfl ?_
    refine g_istore_n d_S_go_22 (by decide) ?_
    refine g_iload_n d_S_go_23 rfl ?_
    refine g_iconst d_S_go_24 ?_
    refine s_icmp_ne d_S_go_25 (fun u5 => ?_) (fun u5 => ?_)
    · refine g_aload_n d_S_go_34 rfl ?_
      refine g_getR d_S_go_35 fl_S_26 rfl rfl ?_
      refine g_getR d_S_go_38 fl_S_71 rfl rfl ?_
      refine g_iconst d_S_go_41 ?_
      refine g_ild d_S_go_42 rfl il_0_10.1 il_0_10.2 ?_
      refine g_istore_n d_S_go_43 (by decide) ?_
      refine g_aload_n d_S_go_44 rfl ?_
      refine g_getR d_S_go_45 fl_S_26 rfl rfl ?_
      refine g_iload_n d_S_go_48 rfl ?_
      refine g_callV1B d_S_go_49 ml_S_119 vk_L_carriesOut rfl ⟨_, rfl, rfl⟩ rfl (Nat.le_of_ble_eq_true rfl) (w_L_carriesOut (X := X) (d := d) rfl rfl rfl _ _) (fun q6 => ?_)
      refine s_if_ne d_S_go_52 (fun u7 => ?_) (fun u7 => ?_)
      · refine g_aload_n d_S_go_61 rfl ?_
        refine g_getR d_S_go_62 fl_S_26 rfl rfl ?_
        refine g_getR d_S_go_65 fl_S_71 rfl rfl ?_
        refine g_iconst d_S_go_68 ?_
        refine g_ild d_S_go_69 rfl il_0_10.1 il_0_10.2 ?_
        refine g_iload_n d_S_go_70 rfl ?_
        refine g_isub d_S_go_71 ?_
        exact g_ireturn d_S_go_72 rfl rfl rfl
      · refine g_aload_n d_S_go_55 rfl ?_
        refine g_iconst d_S_go_56 ?_
        refine g_callV1I d_S_go_57 ml_S_67 vk_S_finding rfl ⟨_, rfl, rfl⟩ rfl (Nat.le_of_ble_eq_true rfl) (w_S_finding (X := X) (d := d + 4) _ _) (fun q8 => ?_)
        exact g_ireturn d_S_go_60 rfl rfl rfl
    · refine g_aload_n d_S_go_28 rfl ?_
      refine g_iconst d_S_go_29 ?_
      refine g_callV1I d_S_go_30 ml_S_67 vk_S_finding rfl ⟨_, rfl, rfl⟩ rfl (Nat.le_of_ble_eq_true rfl) (w_S_finding (X := X) (d := d + 4) _ _) (fun q9 => ?_)
      exact g_ireturn d_S_go_33 rfl rfl rfl
  · refine g_aload_n d_S_go_7 rfl ?_
    refine g_iconst d_S_go_8 ?_
    refine g_callV1I d_S_go_9 ml_S_67 vk_S_finding rfl ⟨_, rfl, rfl⟩ rfl (Nat.le_of_ble_eq_true rfl) (w_S_finding (X := X) (d := d + 4) _ _) (fun q10 => ?_)
    exact g_ireturn d_S_go_12 rfl rfl rfl
def f_S_gives (p1 p2 : Int32) (S : St) : Option (Int32 × St) := ((f_S_isSlot p1 S).bind fun q1 => (if (bI q1.1) = 0 then ((f_S_finding 0 q1.2).bind fun q3 => some (q3.1, q3.2)) else (if p2 < 0 then ((f_S_finding 0 q1.2).bind fun q5 => some (q5.1, q5.2)) else (if p2 ≤ 3 then (if inb p1 10 = true then let x8 : Int32 := (q1.2 5 (p1).toNatClampNeg); (if x8 = (-1) then ((f_S_finding 3 q1.2).bind fun q20 => some (q20.1, q20.2)) else ((f_L_become 22 3 23 2 3 4 q1.2).bind fun q10 => ((f_L_carriesOut 22 3 23 x8 q10).bind fun q11 => (if (bI q11.1) = 0 then ((f_S_finding 4 q11.2).bind fun q19 => some (q19.1, q19.2)) else (if p2 = 0 then ((f_L_since 22 3 23 2 3 4 0 q11.2).bind fun q14 => some (q14.1, q14.2)) else (if p2 = 1 then ((f_L_since 22 3 23 2 3 4 7 q11.2).bind fun q16 => some (q16.1, q16.2)) else (if p2 = 2 then ((f_L_since 22 3 23 2 3 4 8 q11.2).bind fun q18 => some (q18.1, q18.2)) else some ((q11.2 23 1), q11.2)))))))) else none) else ((f_S_finding 0 q1.2).bind fun q21 => some (q21.1, q21.2))))))
set_option maxRecDepth 4000 in
theorem w_S_gives {X : xC} {d : Nat}  (p1 p2 : Int32) (S : St) : SemG eI X k_S_gives (d + 5) 0 [some (.ref (xB X + 0)), some (.int p1), some (.int p2), none] [] S (f_S_gives  p1 p2 S) := by
  unfold f_S_gives
  refine g_iload_n d_S_gives_0 rfl ?_
  refine g_callS1B d_S_gives_1 ml_S_104 sk_S_isSlot rfl (Nat.le_of_ble_eq_true rfl) (w_S_isSlot (X := X) (d := d + 4) _ _) (fun q1 => ?_)
  refine s_if_eq d_S_gives_4 (fun u2 => ?_) (fun u2 => ?_)
  · refine g_aload_n d_S_gives_16 rfl ?_
    refine g_iconst d_S_gives_17 ?_
    refine g_callV1I d_S_gives_18 ml_S_67 vk_S_finding rfl ⟨_, rfl, rfl⟩ rfl (Nat.le_of_ble_eq_true rfl) (w_S_finding (X := X) (d := d + 4) _ _) (fun q3 => ?_)
    exact g_ireturn d_S_gives_21 rfl rfl rfl
  · refine g_iload_n d_S_gives_7 rfl ?_
    refine s_if_lt d_S_gives_8 (fun u4 => ?_) (fun u4 => ?_)
    · refine g_aload_n d_S_gives_16 rfl ?_
      refine g_iconst d_S_gives_17 ?_
      refine g_callV1I d_S_gives_18 ml_S_67 vk_S_finding rfl ⟨_, rfl, rfl⟩ rfl (Nat.le_of_ble_eq_true rfl) (w_S_finding (X := X) (d := d + 4) _ _) (fun q5 => ?_)
      exact g_ireturn d_S_gives_21 rfl rfl rfl
    · refine g_iload_n d_S_gives_11 rfl ?_
      refine g_iconst d_S_gives_12 ?_
      refine s_icmp_le d_S_gives_13 (fun u6 => ?_) (fun u6 => ?_)
      · refine g_aload_n d_S_gives_22 rfl ?_
        refine g_getR d_S_gives_23 fl_S_10 rfl rfl ?_
        refine g_getR d_S_gives_26 fl_S_107 rfl rfl ?_
        refine g_iload_n d_S_gives_29 rfl ?_
        refine g_guard (fun hb7 => ?_)
        refine g_ild d_S_gives_30 rfl hb7 rfl ?_
        refine g_istore_n d_S_gives_31 (by decide) ?_
        refine g_iload_n d_S_gives_32 rfl ?_
        refine g_iconst d_S_gives_33 ?_
        refine s_icmp_ne d_S_gives_34 (fun u9 => ?_) (fun u9 => ?_)
        · refine g_aload_n d_S_gives_43 rfl ?_
          refine g_getR d_S_gives_44 fl_S_36 rfl rfl ?_
          refine g_aload_n d_S_gives_47 rfl ?_
          refine g_getR d_S_gives_48 fl_S_26 rfl rfl ?_
          refine g_callV1V d_S_gives_51 ml_S_122 vk_L_become rfl ⟨_, rfl, rfl⟩ rfl (Nat.le_of_ble_eq_true rfl) (w_L_become (X := X) (d := d + 3) rfl rfl rfl rfl rfl rfl _) (fun q10 => ?_)
          refine g_aload_n d_S_gives_54 rfl ?_
          refine g_getR d_S_gives_55 fl_S_36 rfl rfl ?_
          refine g_iload_n d_S_gives_58 rfl ?_
          refine g_callV1B d_S_gives_59 ml_S_119 vk_L_carriesOut rfl ⟨_, rfl, rfl⟩ rfl (Nat.le_of_ble_eq_true rfl) (w_L_carriesOut (X := X) (d := d) rfl rfl rfl _ _) (fun q11 => ?_)
          refine s_if_ne d_S_gives_62 (fun u12 => ?_) (fun u12 => ?_)
          · refine g_iload_n d_S_gives_71 rfl ?_
            refine g_ite (fun u13 => ?_) (fun u13 => ?_)
            · refine g_tcase (off := 28) (tgt := 100) d_S_gives_72 u13 (by decide) ?_
              refine g_aload_n d_S_gives_100 rfl ?_
              refine g_getR d_S_gives_101 fl_S_36 rfl rfl ?_
              refine g_aload_n d_S_gives_104 rfl ?_
              refine g_getR d_S_gives_105 fl_S_26 rfl rfl ?_
              refine g_iconst d_S_gives_108 ?_
              refine g_callV2I d_S_gives_109 ml_S_126 vk_L_since rfl ⟨_, rfl, rfl⟩ rfl rfl (Nat.le_of_ble_eq_true rfl) (w_L_since (X := X) (d := d + 4) rfl rfl rfl rfl rfl rfl _ _) (fun q14 => ?_)
              exact g_ireturn d_S_gives_112 rfl rfl rfl
            refine g_ite (fun u15 => ?_) (fun u15 => ?_)
            · refine g_tcase (off := 41) (tgt := 113) d_S_gives_72 u15 (by decide) ?_
              refine g_aload_n d_S_gives_113 rfl ?_
              refine g_getR d_S_gives_114 fl_S_36 rfl rfl ?_
              refine g_aload_n d_S_gives_117 rfl ?_
              refine g_getR d_S_gives_118 fl_S_26 rfl rfl ?_
              refine g_bipush d_S_gives_121 ?_
              refine g_callV2I d_S_gives_123 ml_S_126 vk_L_since rfl ⟨_, rfl, rfl⟩ rfl rfl (Nat.le_of_ble_eq_true rfl) (w_L_since (X := X) (d := d + 4) rfl rfl rfl rfl rfl rfl _ _) (fun q16 => ?_)
              exact g_ireturn d_S_gives_126 rfl rfl rfl
            refine g_ite (fun u17 => ?_) (fun u17 => ?_)
            · refine g_tcase (off := 55) (tgt := 127) d_S_gives_72 u17 (by decide) ?_
              refine g_aload_n d_S_gives_127 rfl ?_
              refine g_getR d_S_gives_128 fl_S_36 rfl rfl ?_
              refine g_aload_n d_S_gives_131 rfl ?_
              refine g_getR d_S_gives_132 fl_S_26 rfl rfl ?_
              refine g_bipush d_S_gives_135 ?_
              refine g_callV2I d_S_gives_137 ml_S_126 vk_L_since rfl ⟨_, rfl, rfl⟩ rfl rfl (Nat.le_of_ble_eq_true rfl) (w_L_since (X := X) (d := d + 4) rfl rfl rfl rfl rfl rfl _ _) (fun q18 => ?_)
              exact g_ireturn d_S_gives_140 rfl rfl rfl
            have eu13 := ne32 (n := 0) u13 (by decide)
            have eu15 := ne32 (n := 1) u15 (by decide)
            have eu17 := ne32 (n := 2) u17 (by decide)
            refine g_tdef (tgt := 141) d_S_gives_72 (by omega) (by decide) ?_
            refine g_aload_n d_S_gives_141 rfl ?_
            refine g_getR d_S_gives_142 fl_S_36 rfl rfl ?_
            refine g_getR d_S_gives_145 fl_S_71 rfl rfl ?_
            refine g_iconst d_S_gives_148 ?_
            refine g_ild d_S_gives_149 rfl il_1_10.1 il_1_10.2 ?_
            exact g_ireturn d_S_gives_150 rfl rfl rfl
          · refine g_aload_n d_S_gives_65 rfl ?_
            refine g_iconst d_S_gives_66 ?_
            refine g_callV1I d_S_gives_67 ml_S_67 vk_S_finding rfl ⟨_, rfl, rfl⟩ rfl (Nat.le_of_ble_eq_true rfl) (w_S_finding (X := X) (d := d + 4) _ _) (fun q19 => ?_)
            exact g_ireturn d_S_gives_70 rfl rfl rfl
        · refine g_aload_n d_S_gives_37 rfl ?_
          refine g_iconst d_S_gives_38 ?_
          refine g_callV1I d_S_gives_39 ml_S_67 vk_S_finding rfl ⟨_, rfl, rfl⟩ rfl (Nat.le_of_ble_eq_true rfl) (w_S_finding (X := X) (d := d + 4) _ _) (fun q20 => ?_)
          exact g_ireturn d_S_gives_42 rfl rfl rfl
      · refine g_aload_n d_S_gives_16 rfl ?_
        refine g_iconst d_S_gives_17 ?_
        refine g_callV1I d_S_gives_18 ml_S_67 vk_S_finding rfl ⟨_, rfl, rfl⟩ rfl (Nat.le_of_ble_eq_true rfl) (w_S_finding (X := X) (d := d + 4) _ _) (fun q21 => ?_)
        exact g_ireturn d_S_gives_21 rfl rfl rfl
def f_S_lasts_L47 : Nat → Int32 → Int32 → Int32 → St → Option (Int32 × St)
  | 0, _, _, _, _ => none
  | n + 1, y1, y2, y3, S => (if 50 ≤ y3 then some (y3, S) else ((f_L_carriesOut 22 3 23 y2 S).bind fun q8 => (if (bI q8.1) = 0 then some (y3, q8.2) else f_S_lasts_L47   n y1 y2 (y3 + 1) q8.2)))
set_option maxRecDepth 4000 in
theorem w_S_lasts_L47 {X : xC} {d : Nat}   : ∀ (n : Nat) (y1 : Int32) (y2 : Int32) (y3 : Int32) (S : St), SemG eI X k_S_lasts (d + 5) 47 [some (.ref (xB X + 0)), some (.int y1), some (.int y2), some (.int y3)] [] S (f_S_lasts_L47   n y1 y2 y3 S) := by
  intro n
  induction n with
  | zero => intro _ _ _ _; exact g_none
  | succ n ih =>
    intro y1 y2 y3 S
    unfold f_S_lasts_L47
    refine g_iload_n d_S_lasts_47 rfl ?_
    refine g_bipush d_S_lasts_48 ?_
    refine s_icmp_ge d_S_lasts_50 (fun u7 => ?_) (fun u7 => ?_)
    · refine g_iload_n d_S_lasts_70 rfl ?_
      exact g_ireturn d_S_lasts_71 rfl rfl rfl
    · refine g_aload_n d_S_lasts_53 rfl ?_
      refine g_getR d_S_lasts_54 fl_S_36 rfl rfl ?_
      refine g_iload_n d_S_lasts_57 rfl ?_
      refine g_callV1B d_S_lasts_58 ml_S_119 vk_L_carriesOut rfl ⟨_, rfl, rfl⟩ rfl (Nat.le_of_ble_eq_true rfl) (w_L_carriesOut (X := X) (d := d) rfl rfl rfl _ _) (fun q8 => ?_)
      refine s_if_eq d_S_lasts_61 (fun u9 => ?_) (fun u9 => ?_)
      · refine g_iload_n d_S_lasts_70 rfl ?_
        exact g_ireturn d_S_lasts_71 rfl rfl rfl
      · refine g_iinc d_S_lasts_64 (by decide) rfl ?_
        refine g_goto d_S_lasts_67 ?_
        exact ih _ _ _ _
def f_S_lasts (p1 : Int32) (S : St) : Option (Int32 × St) := ((f_S_isSlot p1 S).bind fun q1 => (if (bI q1.1) = 0 then ((f_S_finding 0 q1.2).bind fun q11 => some (q11.1, q11.2)) else (if inb p1 10 = true then let x4 : Int32 := (q1.2 5 (p1).toNatClampNeg); (if x4 = (-1) then ((f_S_finding 3 q1.2).bind fun q10 => some (q10.1, q10.2)) else ((f_L_become 22 3 23 2 3 4 q1.2).bind fun q6 => f_S_lasts_L47   200 p1 x4 0 q6)) else none)))
set_option maxRecDepth 4000 in
theorem w_S_lasts {X : xC} {d : Nat}  (p1 : Int32) (S : St) : SemG eI X k_S_lasts (d + 5) 0 [some (.ref (xB X + 0)), some (.int p1), none, none] [] S (f_S_lasts  p1 S) := by
  unfold f_S_lasts
  refine g_iload_n d_S_lasts_0 rfl ?_
  refine g_callS1B d_S_lasts_1 ml_S_104 sk_S_isSlot rfl (Nat.le_of_ble_eq_true rfl) (w_S_isSlot (X := X) (d := d + 4) _ _) (fun q1 => ?_)
  refine s_if_ne d_S_lasts_4 (fun u2 => ?_) (fun u2 => ?_)
  · refine g_aload_n d_S_lasts_13 rfl ?_
    refine g_getR d_S_lasts_14 fl_S_10 rfl rfl ?_
    refine g_getR d_S_lasts_17 fl_S_107 rfl rfl ?_
    refine g_iload_n d_S_lasts_20 rfl ?_
    refine g_guard (fun hb3 => ?_)
    refine g_ild d_S_lasts_21 rfl hb3 rfl ?_
    refine g_istore_n d_S_lasts_22 (by decide) ?_
    refine g_iload_n d_S_lasts_23 rfl ?_
    refine g_iconst d_S_lasts_24 ?_
    refine s_icmp_ne d_S_lasts_25 (fun u5 => ?_) (fun u5 => ?_)
    · refine g_aload_n d_S_lasts_34 rfl ?_
      refine g_getR d_S_lasts_35 fl_S_36 rfl rfl ?_
      refine g_aload_n d_S_lasts_38 rfl ?_
      refine g_getR d_S_lasts_39 fl_S_26 rfl rfl ?_
      refine g_callV1V d_S_lasts_42 ml_S_122 vk_L_become rfl ⟨_, rfl, rfl⟩ rfl (Nat.le_of_ble_eq_true rfl) (w_L_become (X := X) (d := d + 3) rfl rfl rfl rfl rfl rfl _) (fun q6 => ?_)
      refine g_iconst d_S_lasts_45 ?_
      refine g_istore_n d_S_lasts_46 (by decide) ?_
      exact w_S_lasts_L47 (X := X) (d := d) 200 _ _ _ _
    · refine g_aload_n d_S_lasts_28 rfl ?_
      refine g_iconst d_S_lasts_29 ?_
      refine g_callV1I d_S_lasts_30 ml_S_67 vk_S_finding rfl ⟨_, rfl, rfl⟩ rfl (Nat.le_of_ble_eq_true rfl) (w_S_finding (X := X) (d := d + 4) _ _) (fun q10 => ?_)
      exact g_ireturn d_S_lasts_33 rfl rfl rfl
  · refine g_aload_n d_S_lasts_7 rfl ?_
    refine g_iconst d_S_lasts_8 ?_
    refine g_callV1I d_S_lasts_9 ml_S_67 vk_S_finding rfl ⟨_, rfl, rfl⟩ rfl (Nat.le_of_ble_eq_true rfl) (w_S_finding (X := X) (d := d + 4) _ _) (fun q11 => ?_)
    exact g_ireturn d_S_lasts_12 rfl rfl rfl
def f_S_timesTillOut_L13 : Nat → Int32 → Int32 → Int32 → St → Option (Int32 × St)
  | 0, _, _, _, _ => none
  | n + 1, y1, y2, y3, S => (if y2 ≤ y3 then ((f_L_isOut 22 3 23 S).bind fun q3 => let x5 : Int32 := (if (bI q3.1) = 0 then (-1) else y3); some (x5, q3.2)) else ((f_L_carriesOut 22 3 23 y1 S).bind fun q6 => (if (bI q6.1) = 0 then ((f_L_isOut 22 3 23 q6.2).bind fun q8 => let x10 : Int32 := (if (bI q8.1) = 0 then (-1) else y3); some (x10, q8.2)) else f_S_timesTillOut_L13   n y1 y2 (y3 + 1) q6.2)))
set_option maxRecDepth 4000 in
theorem w_S_timesTillOut_L13 {X : xC} {d : Nat}   : ∀ (n : Nat) (y1 : Int32) (y2 : Int32) (y3 : Int32) (S : St), SemG eI X k_S_timesTillOut (d + 5) 13 [some (.ref (xB X + 0)), some (.int y1), some (.int y2), some (.int y3)] [] S (f_S_timesTillOut_L13   n y1 y2 y3 S) := by
  intro n
  induction n with
  | zero => intro _ _ _ _; exact g_none
  | succ n ih =>
    intro y1 y2 y3 S
    unfold f_S_timesTillOut_L13
    refine g_iload_n d_S_timesTillOut_13 rfl ?_
    refine g_iload_n d_S_timesTillOut_14 rfl ?_
    refine s_icmp_ge d_S_timesTillOut_15 (fun u2 => ?_) (fun u2 => ?_)
    · refine g_aload_n d_S_timesTillOut_35 rfl ?_
      refine g_getR d_S_timesTillOut_36 fl_S_36 rfl rfl ?_
      refine g_callV0B d_S_timesTillOut_39 ml_S_94 vk_L_isOut rfl ⟨_, rfl, rfl⟩ (Nat.le_of_ble_eq_true rfl) (w_L_isOut (X := X) (d := d + 3) rfl rfl rfl _) (fun q3 => ?_)
      refine m_if_eq d_S_timesTillOut_42 (fun hJ4 => g_iconst d_S_timesTillOut_49 hJ4) (fun hJ4 => g_iload_n d_S_timesTillOut_45 rfl (g_goto d_S_timesTillOut_46 hJ4)) ?_
      exact g_ireturn d_S_timesTillOut_50 rfl rfl rfl
    · refine g_aload_n d_S_timesTillOut_18 rfl ?_
      refine g_getR d_S_timesTillOut_19 fl_S_36 rfl rfl ?_
      refine g_iload_n d_S_timesTillOut_22 rfl ?_
      refine g_callV1B d_S_timesTillOut_23 ml_S_119 vk_L_carriesOut rfl ⟨_, rfl, rfl⟩ rfl (Nat.le_of_ble_eq_true rfl) (w_L_carriesOut (X := X) (d := d) rfl rfl rfl _ _) (fun q6 => ?_)
      refine s_if_eq d_S_timesTillOut_26 (fun u7 => ?_) (fun u7 => ?_)
      · refine g_aload_n d_S_timesTillOut_35 rfl ?_
        refine g_getR d_S_timesTillOut_36 fl_S_36 rfl rfl ?_
        refine g_callV0B d_S_timesTillOut_39 ml_S_94 vk_L_isOut rfl ⟨_, rfl, rfl⟩ (Nat.le_of_ble_eq_true rfl) (w_L_isOut (X := X) (d := d + 3) rfl rfl rfl _) (fun q8 => ?_)
        refine m_if_eq d_S_timesTillOut_42 (fun hJ9 => g_iconst d_S_timesTillOut_49 hJ9) (fun hJ9 => g_iload_n d_S_timesTillOut_45 rfl (g_goto d_S_timesTillOut_46 hJ9)) ?_
        exact g_ireturn d_S_timesTillOut_50 rfl rfl rfl
      · refine g_iinc d_S_timesTillOut_29 (by decide) rfl ?_
        refine g_goto d_S_timesTillOut_32 ?_
        exact ih _ _ _ _
def f_S_timesTillOut (p1 p2 : Int32) (S : St) : Option (Int32 × St) := ((f_L_become 22 3 23 2 3 4 S).bind fun q1 => f_S_timesTillOut_L13   200 p1 p2 0 q1)
set_option maxRecDepth 4000 in
theorem w_S_timesTillOut {X : xC} {d : Nat}  (p1 p2 : Int32) (S : St) : SemG eI X k_S_timesTillOut (d + 5) 0 [some (.ref (xB X + 0)), some (.int p1), some (.int p2), none] [] S (f_S_timesTillOut  p1 p2 S) := by
  unfold f_S_timesTillOut
  refine g_aload_n d_S_timesTillOut_0 rfl ?_
  refine g_getR d_S_timesTillOut_1 fl_S_36 rfl rfl ?_
  refine g_aload_n d_S_timesTillOut_4 rfl ?_
  refine g_getR d_S_timesTillOut_5 fl_S_26 rfl rfl ?_
  refine g_callV1V d_S_timesTillOut_8 ml_S_122 vk_L_become rfl ⟨_, rfl, rfl⟩ rfl (Nat.le_of_ble_eq_true rfl) (w_L_become (X := X) (d := d + 3) rfl rfl rfl rfl rfl rfl _) (fun q1 => ?_)
  refine g_iconst d_S_timesTillOut_11 ?_
  refine g_istore_n d_S_timesTillOut_12 (by decide) ?_
  exact w_S_timesTillOut_L13 (X := X) (d := d) 200 _ _ _ _
def f_S_out (p1 : Int32) (S : St) : Option (Int32 × St) := ((f_S_isSlot p1 S).bind fun q1 => (if (bI q1.1) = 0 then ((f_S_finding 0 q1.2).bind fun q10 => some (q10.1, q10.2)) else (if inb p1 10 = true then let x4 : Int32 := (q1.2 5 (p1).toNatClampNeg); (if x4 = (-1) then ((f_S_finding 3 q1.2).bind fun q9 => some (q9.1, q9.2)) else ((f_S_timesTillOut x4 50 q1.2).bind fun q6 => (if 0 ≤ q6.1 then some (q6.1, q6.2) else ((f_S_finding 3 q6.2).bind fun q8 => some (q8.1, q8.2))))) else none)))
set_option maxRecDepth 4000 in
theorem w_S_out {X : xC} {d : Nat}  (p1 : Int32) (S : St) : SemG eI X k_S_out (d + 6) 0 [some (.ref (xB X + 0)), some (.int p1), none, none] [] S (f_S_out  p1 S) := by
  unfold f_S_out
  refine g_iload_n d_S_out_0 rfl ?_
  refine g_callS1B d_S_out_1 ml_S_104 sk_S_isSlot rfl (Nat.le_of_ble_eq_true rfl) (w_S_isSlot (X := X) (d := d + 5) _ _) (fun q1 => ?_)
  refine s_if_ne d_S_out_4 (fun u2 => ?_) (fun u2 => ?_)
  · refine g_aload_n d_S_out_13 rfl ?_
    refine g_getR d_S_out_14 fl_S_10 rfl rfl ?_
    refine g_getR d_S_out_17 fl_S_107 rfl rfl ?_
    refine g_iload_n d_S_out_20 rfl ?_
    refine g_guard (fun hb3 => ?_)
    refine g_ild d_S_out_21 rfl hb3 rfl ?_
    refine g_istore_n d_S_out_22 (by decide) ?_
    refine g_iload_n d_S_out_23 rfl ?_
    refine g_iconst d_S_out_24 ?_
    refine s_icmp_ne d_S_out_25 (fun u5 => ?_) (fun u5 => ?_)
    · refine g_aload_n d_S_out_34 rfl ?_
      refine g_iload_n d_S_out_35 rfl ?_
      refine g_bipush d_S_out_36 ?_
      refine g_callV2I d_S_out_38 ml_S_130 vk_S_timesTillOut rfl ⟨_, rfl, rfl⟩ rfl rfl (Nat.le_of_ble_eq_true rfl) (w_S_timesTillOut (X := X) (d := d) _ _ _) (fun q6 => ?_)
      refine g_istore_n d_S_out_41 (by decide) ?_
      refine g_iload_n d_S_out_42 rfl ?_
      refine s_if_ge d_S_out_43 (fun u7 => ?_) (fun u7 => ?_)
      · refine g_iload_n d_S_out_54 rfl ?_
        exact g_ireturn d_S_out_55 rfl rfl rfl
      · refine g_aload_n d_S_out_46 rfl ?_
        refine g_iconst d_S_out_47 ?_
        refine g_callV1I d_S_out_48 ml_S_67 vk_S_finding rfl ⟨_, rfl, rfl⟩ rfl (Nat.le_of_ble_eq_true rfl) (w_S_finding (X := X) (d := d + 5) _ _) (fun q8 => ?_)
        refine g_goto d_S_out_51 ?_
        exact g_ireturn d_S_out_55 rfl rfl rfl
    · refine g_aload_n d_S_out_28 rfl ?_
      refine g_iconst d_S_out_29 ?_
      refine g_callV1I d_S_out_30 ml_S_67 vk_S_finding rfl ⟨_, rfl, rfl⟩ rfl (Nat.le_of_ble_eq_true rfl) (w_S_finding (X := X) (d := d + 5) _ _) (fun q9 => ?_)
      exact g_ireturn d_S_out_33 rfl rfl rfl
  · refine g_aload_n d_S_out_7 rfl ?_
    refine g_iconst d_S_out_8 ?_
    refine g_callV1I d_S_out_9 ml_S_67 vk_S_finding rfl ⟨_, rfl, rfl⟩ rfl (Nat.le_of_ble_eq_true rfl) (w_S_finding (X := X) (d := d + 5) _ _) (fun q10 => ?_)
    exact g_ireturn d_S_out_12 rfl rfl rfl
def f_S_when_L42 : Nat → Int32 → Int32 → Int32 → Int32 → Int32 → St → Option (Int32 × St)
  | 0, _, _, _, _, _, _ => none
  | n + 1, y1, y2, y3, y4, y5, S => (if 24 ≤ y5 then (if 0 ≤ y3 then some (y3, S) else ((f_S_finding 3 S).bind fun q8 => some (q8.1, q8.2))) else ((f_L_become 22 3 23 2 3 4 S).bind fun q9 => ((f_L_passHours 22 3 23 y5 q9).bind fun q10 => ((f_L_hour 22 3 23 q10).bind fun q11 => ((f_L_carriesOut 22 3 23 y2 q11.2).bind fun q12 => (if (bI q12.1) = 0 then f_S_when_L42   n y1 y2 y3 y4 (y5 + 1) q12.2 else ((f_L_since 22 3 23 2 3 4 0 q12.2).bind fun q14 => (if y3 < 0 then f_S_when_L42   n y1 y2 q11.1 q14.1 (y5 + 1) q14.2 else (if q14.1 ≤ y4 then f_S_when_L42   n y1 y2 y3 y4 (y5 + 1) q14.2 else f_S_when_L42   n y1 y2 q11.1 q14.1 (y5 + 1) q14.2)))))))))
set_option maxRecDepth 4000 in
theorem w_S_when_L42 {X : xC} {d : Nat}   : ∀ (n : Nat) (y1 : Int32) (y2 : Int32) (y3 : Int32) (y4 : Int32) (y5 : Int32) (S : St), SemG eI X k_S_when (d + 5) 42 [some (.ref (xB X + 0)), some (.int y1), some (.int y2), some (.int y3), some (.int y4), some (.int y5), none, none] [] S (f_S_when_L42   n y1 y2 y3 y4 y5 S) := by
  intro n
  induction n with
  | zero => intro _ _ _ _ _ _; exact g_none
  | succ n ih =>
    intro y1 y2 y3 y4 y5 S
    unfold f_S_when_L42
    refine g_iload d_S_when_42 rfl ?_
    refine g_bipush d_S_when_44 ?_
    refine s_icmp_ge d_S_when_46 (fun u6 => ?_) (fun u6 => ?_)
    · refine g_iload_n d_S_when_127 rfl ?_
      refine s_if_ge d_S_when_128 (fun u7 => ?_) (fun u7 => ?_)
      · refine g_iload_n d_S_when_139 rfl ?_
        exact g_ireturn d_S_when_140 rfl rfl rfl
      · refine g_aload_n d_S_when_131 rfl ?_
        refine g_iconst d_S_when_132 ?_
        refine g_callV1I d_S_when_133 ml_S_67 vk_S_finding rfl ⟨_, rfl, rfl⟩ rfl (Nat.le_of_ble_eq_true rfl) (w_S_finding (X := X) (d := d + 4) _ _) (fun q8 => ?_)
        refine g_goto d_S_when_136 ?_
        exact g_ireturn d_S_when_140 rfl rfl rfl
    · refine g_aload_n d_S_when_49 rfl ?_
      refine g_getR d_S_when_50 fl_S_36 rfl rfl ?_
      refine g_aload_n d_S_when_53 rfl ?_
      refine g_getR d_S_when_54 fl_S_26 rfl rfl ?_
      refine g_callV1V d_S_when_57 ml_S_122 vk_L_become rfl ⟨_, rfl, rfl⟩ rfl (Nat.le_of_ble_eq_true rfl) (w_L_become (X := X) (d := d + 3) rfl rfl rfl rfl rfl rfl _) (fun q9 => ?_)
      refine g_aload_n d_S_when_60 rfl ?_
      refine g_getR d_S_when_61 fl_S_36 rfl rfl ?_
      refine g_iload d_S_when_64 rfl ?_
      refine g_callV1V d_S_when_66 ml_S_133 vk_L_passHours rfl ⟨_, rfl, rfl⟩ rfl (Nat.le_of_ble_eq_true rfl) (w_L_passHours (X := X) (d := d + 4) rfl rfl rfl _ _) (fun q10 => ?_)
      refine g_aload_n d_S_when_69 rfl ?_
      refine g_getR d_S_when_70 fl_S_36 rfl rfl ?_
      refine g_callV0I d_S_when_73 ml_S_84 vk_L_hour rfl ⟨_, rfl, rfl⟩ (Nat.le_of_ble_eq_true rfl) (w_L_hour (X := X) (d := d + 4) rfl rfl rfl _) (fun q11 => ?_)
      refine g_istore d_S_when_76 (by decide) ?_
      refine g_aload_n d_S_when_78 rfl ?_
      refine g_getR d_S_when_79 fl_S_36 rfl rfl ?_
      refine g_iload_n d_S_when_82 rfl ?_
      refine g_callV1B d_S_when_83 ml_S_119 vk_L_carriesOut rfl ⟨_, rfl, rfl⟩ rfl (Nat.le_of_ble_eq_true rfl) (w_L_carriesOut (X := X) (d := d) rfl rfl rfl _ _) (fun q12 => ?_)
      refine s_if_eq d_S_when_86 (fun u13 => ?_) (fun u13 => ?_)
      · refine g_iinc d_S_when_121 (by decide) rfl ?_
        refine g_goto d_S_when_124 ?_
        refine g_drop 6 ?_
        exact ih _ _ _ _ _ _
      · refine g_aload_n d_S_when_89 rfl ?_
        refine g_getR d_S_when_90 fl_S_36 rfl rfl ?_
        refine g_aload_n d_S_when_93 rfl ?_
        refine g_getR d_S_when_94 fl_S_26 rfl rfl ?_
        refine g_iconst d_S_when_97 ?_
        refine g_callV2I d_S_when_98 ml_S_126 vk_L_since rfl ⟨_, rfl, rfl⟩ rfl rfl (Nat.le_of_ble_eq_true rfl) (w_L_since (X := X) (d := d + 4) rfl rfl rfl rfl rfl rfl _ _) (fun q14 => ?_)
        refine g_istore d_S_when_101 (by decide) ?_
        refine g_iload_n d_S_when_103 rfl ?_
        refine s_if_lt d_S_when_104 (fun u15 => ?_) (fun u15 => ?_)
        · refine g_iload d_S_when_114 rfl ?_
          refine g_istore_n d_S_when_116 (by decide) ?_
          refine g_iload d_S_when_117 rfl ?_
          refine g_istore d_S_when_119 (by decide) ?_
          refine g_iinc d_S_when_121 (by decide) rfl ?_
          refine g_goto d_S_when_124 ?_
          refine g_drop 6 ?_
          refine g_drop 7 ?_
          exact ih _ _ _ _ _ _
        · refine g_iload d_S_when_107 rfl ?_
          refine g_iload d_S_when_109 rfl ?_
          refine s_icmp_le d_S_when_111 (fun u16 => ?_) (fun u16 => ?_)
          · refine g_iinc d_S_when_121 (by decide) rfl ?_
            refine g_goto d_S_when_124 ?_
            refine g_drop 6 ?_
            refine g_drop 7 ?_
            exact ih _ _ _ _ _ _
          · refine g_iload d_S_when_114 rfl ?_
            refine g_istore_n d_S_when_116 (by decide) ?_
            refine g_iload d_S_when_117 rfl ?_
            refine g_istore d_S_when_119 (by decide) ?_
            refine g_iinc d_S_when_121 (by decide) rfl ?_
            refine g_goto d_S_when_124 ?_
            refine g_drop 6 ?_
            refine g_drop 7 ?_
            exact ih _ _ _ _ _ _
def f_S_when (p1 : Int32) (S : St) : Option (Int32 × St) := ((f_S_isSlot p1 S).bind fun q1 => (if (bI q1.1) = 0 then ((f_S_finding 0 q1.2).bind fun q18 => some (q18.1, q18.2)) else (if inb p1 10 = true then let x4 : Int32 := (q1.2 5 (p1).toNatClampNeg); (if x4 = (-1) then ((f_S_finding 3 q1.2).bind fun q17 => some (q17.1, q17.2)) else f_S_when_L42   200 p1 x4 (-1) 0 0 q1.2) else none)))
set_option maxRecDepth 4000 in
theorem w_S_when {X : xC} {d : Nat}  (p1 : Int32) (S : St) : SemG eI X k_S_when (d + 5) 0 [some (.ref (xB X + 0)), some (.int p1), none, none, none, none, none, none] [] S (f_S_when  p1 S) := by
  unfold f_S_when
  refine g_iload_n d_S_when_0 rfl ?_
  refine g_callS1B d_S_when_1 ml_S_104 sk_S_isSlot rfl (Nat.le_of_ble_eq_true rfl) (w_S_isSlot (X := X) (d := d + 4) _ _) (fun q1 => ?_)
  refine s_if_ne d_S_when_4 (fun u2 => ?_) (fun u2 => ?_)
  · refine g_aload_n d_S_when_13 rfl ?_
    refine g_getR d_S_when_14 fl_S_10 rfl rfl ?_
    refine g_getR d_S_when_17 fl_S_107 rfl rfl ?_
    refine g_iload_n d_S_when_20 rfl ?_
    refine g_guard (fun hb3 => ?_)
    refine g_ild d_S_when_21 rfl hb3 rfl ?_
    refine g_istore_n d_S_when_22 (by decide) ?_
    refine g_iload_n d_S_when_23 rfl ?_
    refine g_iconst d_S_when_24 ?_
    refine s_icmp_ne d_S_when_25 (fun u5 => ?_) (fun u5 => ?_)
    · refine g_iconst d_S_when_34 ?_
      refine g_istore_n d_S_when_35 (by decide) ?_
      refine g_iconst d_S_when_36 ?_
      refine g_istore d_S_when_37 (by decide) ?_
      refine g_iconst d_S_when_39 ?_
      refine g_istore d_S_when_40 (by decide) ?_
      exact w_S_when_L42 (X := X) (d := d) 200 _ _ _ _ _ _
    · refine g_aload_n d_S_when_28 rfl ?_
      refine g_iconst d_S_when_29 ?_
      refine g_callV1I d_S_when_30 ml_S_67 vk_S_finding rfl ⟨_, rfl, rfl⟩ rfl (Nat.le_of_ble_eq_true rfl) (w_S_finding (X := X) (d := d + 4) _ _) (fun q17 => ?_)
      exact g_ireturn d_S_when_33 rfl rfl rfl
  · refine g_aload_n d_S_when_7 rfl ?_
    refine g_iconst d_S_when_8 ?_
    refine g_callV1I d_S_when_9 ml_S_67 vk_S_finding rfl ⟨_, rfl, rfl⟩ rfl (Nat.le_of_ble_eq_true rfl) (w_S_finding (X := X) (d := d + 4) _ _) (fun q18 => ?_)
    exact g_ireturn d_S_when_12 rfl rfl rfl
def f_P_append (p1 : Int32) (S : St) : Option (St) := (if (S 34 1) < 0 then some S else (if 120 ≤ (S 34 1) then some S else (if inb (S 34 1) 120 = true then let S4 := put S 35 ((S 34 1)).toNatClampNeg p1; let S5 := put S4 34 1 ((S4 34 1) + 1); some S5 else none)))
set_option maxRecDepth 4000 in
theorem w_P_append {X : xC} {d : Nat}  (p1 : Int32) (S : St) : SemG eV X k_P_append (d) 0 [some (.ref (xB X + 34)), some (.int p1)] [] S (f_P_append  p1 S) := by
  unfold f_P_append
  refine g_aload_n d_P_append_0 rfl ?_
  refine g_getI d_P_append_1 fl_P_15 rfl rfl ?_
  refine s_if_lt d_P_append_4 (fun u1 => ?_) (fun u1 => ?_)
  · exact g_return d_P_append_36 rfl rfl
  · refine g_aload_n d_P_append_7 rfl ?_
    refine g_getI d_P_append_8 fl_P_15 rfl rfl ?_
    refine g_bipush d_P_append_11 ?_
    refine s_icmp_ge d_P_append_13 (fun u2 => ?_) (fun u2 => ?_)
    · exact g_return d_P_append_36 rfl rfl
    · refine g_aload_n d_P_append_16 rfl ?_
      refine g_getR d_P_append_17 fl_P_9 rfl rfl ?_
      refine g_aload_n d_P_append_20 rfl ?_
      refine g_getI d_P_append_21 fl_P_15 rfl rfl ?_
      refine g_iload_n d_P_append_24 rfl ?_
      refine g_guard (fun hb3 => ?_)
      refine g_ist d_P_append_25 rfl hb3 rfl ?_
      refine g_aload_n d_P_append_26 rfl ?_
      refine g_dup d_P_append_27 rfl ?_
      refine g_getI d_P_append_28 fl_P_15 rfl rfl ?_
      refine g_iconst d_P_append_31 ?_
      refine g_iadd d_P_append_32 ?_
      refine g_putI d_P_append_33 fl_P_15 ⟨_, rfl, rfl⟩ rfl rfl rfl rfl ?_
      exact g_return d_P_append_36 rfl rfl
def f_S_feed_L40 : Nat → Int32 → Int32 → Int32 → St → Option (Int32 × St)
  | 0, _, _, _, _ => none
  | n + 1, y1, y2, y3, S => (if y3 < 0 then some ((S 34 1), S) else ((f_P_append (((y1).toUInt32 >>> (Int32.toUInt32 (8 * y3) &&& Int32.toUInt32 31)).toInt32 &&& 255) S).bind fun q6 => f_S_feed_L40   n y1 y2 (y3 + (-1)) q6))
set_option maxRecDepth 4000 in
theorem w_S_feed_L40 {X : xC} {d : Nat}   : ∀ (n : Nat) (y1 : Int32) (y2 : Int32) (y3 : Int32) (S : St), SemG eI X k_S_feed (d + 1) 40 [some (.ref (xB X + 0)), some (.int y1), some (.int y2), some (.int y3)] [] S (f_S_feed_L40   n y1 y2 y3 S) := by
  intro n
  induction n with
  | zero => intro _ _ _ _; exact g_none
  | succ n ih =>
    intro y1 y2 y3 S
    unfold f_S_feed_L40
    refine g_iload_n d_S_feed_40 rfl ?_
    refine s_if_lt d_S_feed_41 (fun u5 => ?_) (fun u5 => ?_)
    · refine g_aload_n d_S_feed_67 rfl ?_
      refine g_getR d_S_feed_68 fl_S_49 rfl rfl ?_
      refine g_getI d_S_feed_71 fl_S_137 rfl rfl ?_
      exact g_ireturn d_S_feed_74 rfl rfl rfl
    · refine g_aload_n d_S_feed_44 rfl ?_
      refine g_getR d_S_feed_45 fl_S_49 rfl rfl ?_
      refine g_iload_n d_S_feed_48 rfl ?_
      refine g_bipush d_S_feed_49 ?_
      refine g_iload_n d_S_feed_51 rfl ?_
      refine g_imul d_S_feed_52 ?_
      refine g_iushr d_S_feed_53 ?_
      refine g_sipush d_S_feed_54 ?_
      refine g_iand d_S_feed_57 ?_
      refine g_callV1V d_S_feed_58 ml_S_141 vk_P_append rfl ⟨_, rfl, rfl⟩ rfl (Nat.le_of_ble_eq_true rfl) (w_P_append (X := X) (d := d) _ _) (fun q6 => ?_)
      refine g_iinc d_S_feed_61 (by decide) rfl ?_
      refine g_goto d_S_feed_64 ?_
      exact ih _ _ _ _
def f_S_feed (p1 p2 : Int32) (S : St) : Option (Int32 × St) := (if p2 < 1 then ((f_S_finding 0 S).bind fun q2 => some (q2.1, q2.2)) else (if p2 ≤ 4 then (if ((S 34 1) + p2) ≤ 120 then f_S_feed_L40   200 p1 p2 (p2 - 1) S else ((f_S_finding 1 S).bind fun q7 => some (q7.1, q7.2))) else ((f_S_finding 0 S).bind fun q8 => some (q8.1, q8.2))))
set_option maxRecDepth 4000 in
theorem w_S_feed {X : xC} {d : Nat}  (p1 p2 : Int32) (S : St) : SemG eI X k_S_feed (d + 1) 0 [some (.ref (xB X + 0)), some (.int p1), some (.int p2), none] [] S (f_S_feed  p1 p2 S) := by
  unfold f_S_feed
  refine g_iload_n d_S_feed_0 rfl ?_
  refine g_iconst d_S_feed_1 ?_
  refine s_icmp_lt d_S_feed_2 (fun u1 => ?_) (fun u1 => ?_)
  · refine g_aload_n d_S_feed_10 rfl ?_
    refine g_iconst d_S_feed_11 ?_
    refine g_callV1I d_S_feed_12 ml_S_67 vk_S_finding rfl ⟨_, rfl, rfl⟩ rfl (Nat.le_of_ble_eq_true rfl) (w_S_finding (X := X) (d := d) _ _) (fun q2 => ?_)
    exact g_ireturn d_S_feed_15 rfl rfl rfl
  · refine g_iload_n d_S_feed_5 rfl ?_
    refine g_iconst d_S_feed_6 ?_
    refine s_icmp_le d_S_feed_7 (fun u3 => ?_) (fun u3 => ?_)
    · refine g_aload_n d_S_feed_16 rfl ?_
      refine g_getR d_S_feed_17 fl_S_49 rfl rfl ?_
      refine g_getI d_S_feed_20 fl_S_137 rfl rfl ?_
      refine g_iload_n d_S_feed_23 rfl ?_
      refine g_iadd d_S_feed_24 ?_
      refine g_bipush d_S_feed_25 ?_
      refine s_icmp_le d_S_feed_27 (fun u4 => ?_) (fun u4 => ?_)
      · refine g_iload_n d_S_feed_36 rfl ?_
        refine g_iconst d_S_feed_37 ?_
        refine g_isub d_S_feed_38 ?_
        refine g_istore_n d_S_feed_39 (by decide) ?_
        exact w_S_feed_L40 (X := X) (d := d) 200 _ _ _ _
      · refine g_aload_n d_S_feed_30 rfl ?_
        refine g_iconst d_S_feed_31 ?_
        refine g_callV1I d_S_feed_32 ml_S_67 vk_S_finding rfl ⟨_, rfl, rfl⟩ rfl (Nat.le_of_ble_eq_true rfl) (w_S_finding (X := X) (d := d) _ _) (fun q7 => ?_)
        exact g_ireturn d_S_feed_35 rfl rfl rfl
    · refine g_aload_n d_S_feed_10 rfl ?_
      refine g_iconst d_S_feed_11 ?_
      refine g_callV1I d_S_feed_12 ml_S_67 vk_S_finding rfl ⟨_, rfl, rfl⟩ rfl (Nat.le_of_ble_eq_true rfl) (w_S_finding (X := X) (d := d) _ _) (fun q8 => ?_)
      exact g_ireturn d_S_feed_15 rfl rfl rfl
def f_S_wipe (S : St) : Option (Int32 × St) := let S1 := put S 34 1 0; some ((S 34 1), S1)
set_option maxRecDepth 4000 in
theorem w_S_wipe {X : xC} {d : Nat}  (S : St) : SemG eI X k_S_wipe (d) 0 [some (.ref (xB X + 0)), none] [] S (f_S_wipe   S) := by
  unfold f_S_wipe
  refine g_aload_n d_S_wipe_0 rfl ?_
  refine g_getR d_S_wipe_1 fl_S_49 rfl rfl ?_
  refine g_getI d_S_wipe_4 fl_S_137 rfl rfl ?_
  refine g_istore_n d_S_wipe_7 (by decide) ?_
  refine g_aload_n d_S_wipe_8 rfl ?_
  refine g_getR d_S_wipe_9 fl_S_49 rfl rfl ?_
  refine g_iconst d_S_wipe_12 ?_
  refine g_putI d_S_wipe_13 fl_S_137 ⟨_, rfl, rfl⟩ rfl rfl rfl rfl ?_
  refine g_iload_n d_S_wipe_16 rfl ?_
  exact g_ireturn d_S_wipe_17 rfl rfl rfl
def f_S_planOf (p1 : Int32) (S : St) : Option (Int32 × St) := (if p1 < 0 then ((f_S_finding 0 S).bind fun q2 => some (q2.1, q2.2)) else (if (S 1 5) ≤ p1 then ((f_S_finding 0 S).bind fun q4 => some (q4.1, q4.2)) else (if p1 < 20 then (if inb p1 20 = true then some ((S 7 (p1).toNatClampNeg), S) else none) else ((f_S_finding 0 S).bind fun q7 => some (q7.1, q7.2)))))
set_option maxRecDepth 4000 in
theorem w_S_planOf {X : xC} {d : Nat}  (p1 : Int32) (S : St) : SemG eI X k_S_planOf (d + 1) 0 [some (.ref (xB X + 0)), some (.int p1)] [] S (f_S_planOf  p1 S) := by
  unfold f_S_planOf
  refine g_iload_n d_S_planOf_0 rfl ?_
  refine s_if_lt d_S_planOf_1 (fun u1 => ?_) (fun u1 => ?_)
  · refine g_aload_n d_S_planOf_21 rfl ?_
    refine g_iconst d_S_planOf_22 ?_
    refine g_callV1I d_S_planOf_23 ml_S_67 vk_S_finding rfl ⟨_, rfl, rfl⟩ rfl (Nat.le_of_ble_eq_true rfl) (w_S_finding (X := X) (d := d) _ _) (fun q2 => ?_)
    exact g_ireturn d_S_planOf_26 rfl rfl rfl
  · refine g_iload_n d_S_planOf_4 rfl ?_
    refine g_aload_n d_S_planOf_5 rfl ?_
    refine g_getR d_S_planOf_6 fl_S_10 rfl rfl ?_
    refine g_getI d_S_planOf_9 fl_S_151 rfl rfl ?_
    refine s_icmp_ge d_S_planOf_12 (fun u3 => ?_) (fun u3 => ?_)
    · refine g_aload_n d_S_planOf_21 rfl ?_
      refine g_iconst d_S_planOf_22 ?_
      refine g_callV1I d_S_planOf_23 ml_S_67 vk_S_finding rfl ⟨_, rfl, rfl⟩ rfl (Nat.le_of_ble_eq_true rfl) (w_S_finding (X := X) (d := d) _ _) (fun q4 => ?_)
      exact g_ireturn d_S_planOf_26 rfl rfl rfl
    · refine g_iload_n d_S_planOf_15 rfl ?_
      refine g_bipush d_S_planOf_16 ?_
      refine s_icmp_lt d_S_planOf_18 (fun u5 => ?_) (fun u5 => ?_)
      · refine g_aload_n d_S_planOf_27 rfl ?_
        refine g_getR d_S_planOf_28 fl_S_10 rfl rfl ?_
        refine g_getR d_S_planOf_31 fl_S_154 rfl rfl ?_
        refine g_iload_n d_S_planOf_34 rfl ?_
        refine g_guard (fun hb6 => ?_)
        refine g_ild d_S_planOf_35 rfl hb6 rfl ?_
        exact g_ireturn d_S_planOf_36 rfl rfl rfl
      · refine g_aload_n d_S_planOf_21 rfl ?_
        refine g_iconst d_S_planOf_22 ?_
        refine g_callV1I d_S_planOf_23 ml_S_67 vk_S_finding rfl ⟨_, rfl, rfl⟩ rfl (Nat.le_of_ble_eq_true rfl) (w_S_finding (X := X) (d := d) _ _) (fun q7 => ?_)
        exact g_ireturn d_S_planOf_26 rfl rfl rfl
def f_S_clear (S : St) : Option (Int32 × St) := let S1 := put S 1 5 0; some ((S 1 5), S1)
set_option maxRecDepth 4000 in
theorem w_S_clear {X : xC} {d : Nat}  (S : St) : SemG eI X k_S_clear (d) 0 [some (.ref (xB X + 0)), none] [] S (f_S_clear   S) := by
  unfold f_S_clear
  refine g_aload_n d_S_clear_0 rfl ?_
  refine g_getR d_S_clear_1 fl_S_10 rfl rfl ?_
  refine g_getI d_S_clear_4 fl_S_151 rfl rfl ?_
  refine g_istore_n d_S_clear_7 (by decide) ?_
  refine g_aload_n d_S_clear_8 rfl ?_
  refine g_getR d_S_clear_9 fl_S_10 rfl rfl ?_
  refine g_iconst d_S_clear_12 ?_
  refine g_putI d_S_clear_13 fl_S_151 ⟨_, rfl, rfl⟩ rfl rfl rfl rfl ?_
  refine g_iload_n d_S_clear_16 rfl ?_
  exact g_ireturn d_S_clear_17 rfl rfl rfl
def f_C_isStepDoneBy (c1 g1 h1 : Nat) (p2 : Int32) (S : St) : Option (Bool × St) := (if p2 < 0 then some (false, S) else (if (S 1 5) ≤ p2 then some (false, S) else (if 20 ≤ p2 then some (false, S) else (if inb p2 20 = true then ((f_L_carriesOut c1 g1 h1 (S 7 (p2).toNatClampNeg) S).bind fun q5 => let x7 : Int32 := (if (bI q5.1) = 0 then 0 else 1); some ((if (bI q5.1) = 0 then false else true), q5.2)) else none))))
set_option maxRecDepth 4000 in
theorem w_C_isStepDoneBy {X : xC} {d : Nat} {c1 g1 h1 : Nat} (hc1 : lay[c1]? = some (.inr (.inr (0, [some g1, some h1])))) (hg1 : lay[g1]? = some (.inl 40)) (hh1 : lay[h1]? = some (.inl 10)) (p2 : Int32) (S : St) : SemG eB X k_C_isStepDoneBy (d + 5) 0 [some (.ref (xB X + 1)), some (.ref (xB X + c1)), some (.int p2)] [] S (f_C_isStepDoneBy c1 g1 h1 p2 S) := by
  unfold f_C_isStepDoneBy
  refine g_iload_n d_C_isStepDoneBy_0 rfl ?_
  refine s_if_lt d_C_isStepDoneBy_1 (fun u1 => ?_) (fun u1 => ?_)
  · refine g_iconst d_C_isStepDoneBy_35 ?_
    refine g_zreturn d_C_isStepDoneBy_36 rfl ?_ rfl
    rfl
  · refine g_iload_n d_C_isStepDoneBy_4 rfl ?_
    refine g_aload_n d_C_isStepDoneBy_5 rfl ?_
    refine g_getI d_C_isStepDoneBy_6 fl_C_54 rfl rfl ?_
    refine s_icmp_ge d_C_isStepDoneBy_9 (fun u2 => ?_) (fun u2 => ?_)
    · refine g_iconst d_C_isStepDoneBy_35 ?_
      refine g_zreturn d_C_isStepDoneBy_36 rfl ?_ rfl
      rfl
    · refine g_iload_n d_C_isStepDoneBy_12 rfl ?_
      refine g_bipush d_C_isStepDoneBy_13 ?_
      refine s_icmp_ge d_C_isStepDoneBy_15 (fun u3 => ?_) (fun u3 => ?_)
      · refine g_iconst d_C_isStepDoneBy_35 ?_
        refine g_zreturn d_C_isStepDoneBy_36 rfl ?_ rfl
        rfl
      · refine g_aload_n d_C_isStepDoneBy_18 rfl ?_
        refine g_aload_n d_C_isStepDoneBy_19 rfl ?_
        refine g_getR d_C_isStepDoneBy_20 fl_C_31 rfl rfl ?_
        refine g_iload_n d_C_isStepDoneBy_23 rfl ?_
        refine g_guard (fun hb4 => ?_)
        refine g_ild d_C_isStepDoneBy_24 rfl hb4 rfl ?_
        refine g_callV1B d_C_isStepDoneBy_25 ml_C_62 vk_L_carriesOut hc1 ⟨_, rfl, rfl⟩ rfl (Nat.le_of_ble_eq_true rfl) (w_L_carriesOut (X := X) (d := d) hc1 hg1 hh1 _ _) (fun q5 => ?_)
        refine m_if_eq d_C_isStepDoneBy_28 (fun hJ6 => g_iconst d_C_isStepDoneBy_35 hJ6) (fun hJ6 => g_iconst d_C_isStepDoneBy_31 (g_goto d_C_isStepDoneBy_32 hJ6)) ?_
        refine g_zreturn d_C_isStepDoneBy_36 rfl ?_ rfl
        (repeat' split) <;> rfl
def f_C_planDoneBy_L2 (c1 g1 h1 : Nat) : Nat → Int32 → St → Option (Int32 × St)
  | 0, _, _ => none
  | n + 1, y2, S => (if 20 ≤ y2 then some (y2, S) else ((f_C_isStepDoneBy c1 g1 h1 y2 S).bind fun q2 => (if (bI q2.1) = 0 then some (y2, q2.2) else f_C_planDoneBy_L2 c1 g1 h1  n (y2 + 1) q2.2)))
set_option maxRecDepth 4000 in
theorem w_C_planDoneBy_L2 {X : xC} {d : Nat} {c1 g1 h1 : Nat} (hc1 : lay[c1]? = some (.inr (.inr (0, [some g1, some h1])))) (hg1 : lay[g1]? = some (.inl 40)) (hh1 : lay[h1]? = some (.inl 10))  : ∀ (n : Nat) (y2 : Int32) (S : St), SemG eI X k_C_planDoneBy (d + 6) 2 [some (.ref (xB X + 1)), some (.ref (xB X + c1)), some (.int y2)] [] S (f_C_planDoneBy_L2 c1 g1 h1  n y2 S) := by
  intro n
  induction n with
  | zero => intro _ _; exact g_none
  | succ n ih =>
    intro y2 S
    unfold f_C_planDoneBy_L2
    refine g_iload_n d_C_planDoneBy_2 rfl ?_
    refine g_bipush d_C_planDoneBy_3 ?_
    refine s_icmp_ge d_C_planDoneBy_5 (fun u1 => ?_) (fun u1 => ?_)
    · refine g_iload_n d_C_planDoneBy_23 rfl ?_
      exact g_ireturn d_C_planDoneBy_24 rfl rfl rfl
    · refine g_aload_n d_C_planDoneBy_8 rfl ?_
      refine g_aload_n d_C_planDoneBy_9 rfl ?_
      refine g_iload_n d_C_planDoneBy_10 rfl ?_
      refine g_callV2B d_C_planDoneBy_11 ml_C_58 vk_C_isStepDoneBy rfl ⟨_, rfl, rfl⟩ rfl rfl (Nat.le_of_ble_eq_true rfl) (w_C_isStepDoneBy (X := X) (d := d) hc1 hg1 hh1 _ _) (fun q2 => ?_)
      refine s_if_eq d_C_planDoneBy_14 (fun u3 => ?_) (fun u3 => ?_)
      · refine g_iload_n d_C_planDoneBy_23 rfl ?_
        exact g_ireturn d_C_planDoneBy_24 rfl rfl rfl
      · refine g_iinc d_C_planDoneBy_17 (by decide) rfl ?_
        refine g_goto d_C_planDoneBy_20 ?_
        exact ih _ _
def f_C_planDoneBy (c1 g1 h1 : Nat) (S : St) : Option (Int32 × St) := f_C_planDoneBy_L2 c1 g1 h1  200 0 S
set_option maxRecDepth 4000 in
theorem w_C_planDoneBy {X : xC} {d : Nat} {c1 g1 h1 : Nat} (hc1 : lay[c1]? = some (.inr (.inr (0, [some g1, some h1])))) (hg1 : lay[g1]? = some (.inl 40)) (hh1 : lay[h1]? = some (.inl 10)) (S : St) : SemG eI X k_C_planDoneBy (d + 6) 0 [some (.ref (xB X + 1)), some (.ref (xB X + c1)), none] [] S (f_C_planDoneBy c1 g1 h1  S) := by
  unfold f_C_planDoneBy
  refine g_iconst d_C_planDoneBy_0 ?_
  refine g_istore_n d_C_planDoneBy_1 (by decide) ?_
  exact w_C_planDoneBy_L2 (X := X) (d := d) hc1 hg1 hh1 200 _ _
def f_S_follow (S : St) : Option (Int32 × St) := ((f_C_planDoneBy 2 3 4 S).bind fun q1 => some (q1.1, q1.2))
set_option maxRecDepth 4000 in
theorem w_S_follow {X : xC} {d : Nat}  (S : St) : SemG eI X k_S_follow (d + 7) 0 [some (.ref (xB X + 0))] [] S (f_S_follow   S) := by
  unfold f_S_follow
  refine g_aload_n d_S_follow_0 rfl ?_
  refine g_getR d_S_follow_1 fl_S_10 rfl rfl ?_
  refine g_aload_n d_S_follow_4 rfl ?_
  refine g_getR d_S_follow_5 fl_S_26 rfl rfl ?_
  refine g_callV1I d_S_follow_8 ml_S_157 vk_C_planDoneBy rfl ⟨_, rfl, rfl⟩ rfl (Nat.le_of_ble_eq_true rfl) (w_C_planDoneBy (X := X) (d := d) rfl rfl rfl _) (fun q1 => ?_)
  exact g_ireturn d_S_follow_11 rfl rfl rfl
def f_S_plans (p1 : Int32) (S : St) : Option (Int32 × St) := (if p1 < 0 then ((f_S_finding 0 S).bind fun q2 => some (q2.1, q2.2)) else (if p1 ≤ 3 then ((f_L_become 22 3 23 2 3 4 S).bind fun q4 => ((f_C_planDoneBy 22 3 23 q4).bind fun q5 => (if p1 = 0 then some (q5.1, q5.2) else (if p1 = 1 then ((f_L_since 22 3 23 2 3 4 0 q5.2).bind fun q8 => some (q8.1, q8.2)) else (if p1 = 2 then ((f_L_since 22 3 23 2 3 4 8 q5.2).bind fun q10 => some (q10.1, q10.2)) else ((f_L_since 22 3 23 2 3 4 7 q5.2).bind fun q11 => some (q11.1, q11.2))))))) else ((f_S_finding 0 S).bind fun q12 => some (q12.1, q12.2))))
set_option maxRecDepth 4000 in
theorem w_S_plans {X : xC} {d : Nat}  (p1 : Int32) (S : St) : SemG eI X k_S_plans (d + 7) 0 [some (.ref (xB X + 0)), some (.int p1), none] [] S (f_S_plans  p1 S) := by
  unfold f_S_plans
  refine g_iload_n d_S_plans_0 rfl ?_
  refine s_if_lt d_S_plans_1 (fun u1 => ?_) (fun u1 => ?_)
  · refine g_aload_n d_S_plans_9 rfl ?_
    refine g_iconst d_S_plans_10 ?_
    refine g_callV1I d_S_plans_11 ml_S_67 vk_S_finding rfl ⟨_, rfl, rfl⟩ rfl (Nat.le_of_ble_eq_true rfl) (w_S_finding (X := X) (d := d + 6) _ _) (fun q2 => ?_)
    exact g_ireturn d_S_plans_14 rfl rfl rfl
  · refine g_iload_n d_S_plans_4 rfl ?_
    refine g_iconst d_S_plans_5 ?_
    refine s_icmp_le d_S_plans_6 (fun u3 => ?_) (fun u3 => ?_)
    · refine g_aload_n d_S_plans_15 rfl ?_
      refine g_getR d_S_plans_16 fl_S_36 rfl rfl ?_
      refine g_aload_n d_S_plans_19 rfl ?_
      refine g_getR d_S_plans_20 fl_S_26 rfl rfl ?_
      refine g_callV1V d_S_plans_23 ml_S_122 vk_L_become rfl ⟨_, rfl, rfl⟩ rfl (Nat.le_of_ble_eq_true rfl) (w_L_become (X := X) (d := d + 5) rfl rfl rfl rfl rfl rfl _) (fun q4 => ?_)
      refine g_aload_n d_S_plans_26 rfl ?_
      refine g_getR d_S_plans_27 fl_S_10 rfl rfl ?_
      refine g_aload_n d_S_plans_30 rfl ?_
      refine g_getR d_S_plans_31 fl_S_36 rfl rfl ?_
      refine g_callV1I d_S_plans_34 ml_S_157 vk_C_planDoneBy rfl ⟨_, rfl, rfl⟩ rfl (Nat.le_of_ble_eq_true rfl) (w_C_planDoneBy (X := X) (d := d) rfl rfl rfl _) (fun q5 => ?_)
      refine g_istore_n d_S_plans_37 (by decide) ?_
      refine g_iload_n d_S_plans_38 rfl ?_
      refine g_ite (fun u6 => ?_) (fun u6 => ?_)
      · refine g_tcase (off := 25) (tgt := 64) d_S_plans_39 u6 (by decide) ?_
        refine g_iload_n d_S_plans_64 rfl ?_
        exact g_ireturn d_S_plans_65 rfl rfl rfl
      refine g_ite (fun u7 => ?_) (fun u7 => ?_)
      · refine g_tcase (off := 27) (tgt := 66) d_S_plans_39 u7 (by decide) ?_
        refine g_aload_n d_S_plans_66 rfl ?_
        refine g_getR d_S_plans_67 fl_S_36 rfl rfl ?_
        refine g_aload_n d_S_plans_70 rfl ?_
        refine g_getR d_S_plans_71 fl_S_26 rfl rfl ?_
        refine g_iconst d_S_plans_74 ?_
        refine g_callV2I d_S_plans_75 ml_S_126 vk_L_since rfl ⟨_, rfl, rfl⟩ rfl rfl (Nat.le_of_ble_eq_true rfl) (w_L_since (X := X) (d := d + 6) rfl rfl rfl rfl rfl rfl _ _) (fun q8 => ?_)
        exact g_ireturn d_S_plans_78 rfl rfl rfl
      refine g_ite (fun u9 => ?_) (fun u9 => ?_)
      · refine g_tcase (off := 40) (tgt := 79) d_S_plans_39 u9 (by decide) ?_
        refine g_aload_n d_S_plans_79 rfl ?_
        refine g_getR d_S_plans_80 fl_S_36 rfl rfl ?_
        refine g_aload_n d_S_plans_83 rfl ?_
        refine g_getR d_S_plans_84 fl_S_26 rfl rfl ?_
        refine g_bipush d_S_plans_87 ?_
        refine g_callV2I d_S_plans_89 ml_S_126 vk_L_since rfl ⟨_, rfl, rfl⟩ rfl rfl (Nat.le_of_ble_eq_true rfl) (w_L_since (X := X) (d := d + 6) rfl rfl rfl rfl rfl rfl _ _) (fun q10 => ?_)
        exact g_ireturn d_S_plans_92 rfl rfl rfl
      have eu6 := ne32 (n := 0) u6 (by decide)
      have eu7 := ne32 (n := 1) u7 (by decide)
      have eu9 := ne32 (n := 2) u9 (by decide)
      refine g_tdef (tgt := 93) d_S_plans_39 (by omega) (by decide) ?_
      refine g_aload_n d_S_plans_93 rfl ?_
      refine g_getR d_S_plans_94 fl_S_36 rfl rfl ?_
      refine g_aload_n d_S_plans_97 rfl ?_
      refine g_getR d_S_plans_98 fl_S_26 rfl rfl ?_
      refine g_bipush d_S_plans_101 ?_
      refine g_callV2I d_S_plans_103 ml_S_126 vk_L_since rfl ⟨_, rfl, rfl⟩ rfl rfl (Nat.le_of_ble_eq_true rfl) (w_L_since (X := X) (d := d + 6) rfl rfl rfl rfl rfl rfl _ _) (fun q11 => ?_)
      exact g_ireturn d_S_plans_106 rfl rfl rfl
    · refine g_aload_n d_S_plans_9 rfl ?_
      refine g_iconst d_S_plans_10 ?_
      refine g_callV1I d_S_plans_11 ml_S_67 vk_S_finding rfl ⟨_, rfl, rfl⟩ rfl (Nat.le_of_ble_eq_true rfl) (w_S_finding (X := X) (d := d + 6) _ _) (fun q12 => ?_)
      exact g_ireturn d_S_plans_14 rfl rfl rfl
