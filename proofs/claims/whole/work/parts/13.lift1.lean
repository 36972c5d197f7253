def f_L_hour (c g h : Nat) (S : St) : Option (Int32 × St) := some (((14 + ((S h 7) / 60)) - (14 + ((S h 7) / 60)) / 24 * 24), S)
set_option maxRecDepth 4000 in
theorem w_L_hour {X : xC} {d : Nat} {c g h : Nat} (hc : lay[c]? = some (.inr (.inr (0, [some g, some h])))) (hg : lay[g]? = some (.inl 40)) (hh : lay[h]? = some (.inl 10)) (S : St) : SemG eI X k_L_hour (d) 0 [some (.ref (xB X + c))] [] S (f_L_hour c g h  S) := by
  unfold f_L_hour
  refine g_bipush d_L_hour_0 ?_
  refine g_aload_n d_L_hour_2 rfl ?_
  refine g_getR d_L_hour_3 fl_L_9 hc rfl ?_
  refine g_bipush d_L_hour_6 ?_
  refine g_ild d_L_hour_8 hh il_7_10.1 il_7_10.2 ?_
  refine g_bipush d_L_hour_9 ?_
  refine g_idiv d_L_hour_11 (by decide) ?_
  refine g_iadd d_L_hour_12 ?_
  refine g_bipush d_L_hour_13 ?_
  refine g_irem d_L_hour_15 (by decide) ?_
  exact g_ireturn d_L_hour_16 rfl rfl rfl
def f_L_heat (c g h : Nat) (S : St) : Option (Int32 × St) := ((f_L_hour c g h S).bind fun q1 => (if q1.1 < 10 then let x5 : Int32 := (if 20 ≤ q1.1 then 1 else (if 5 < q1.1 then 2 else 1)); some (x5, q1.2) else (if 16 < q1.1 then let x9 : Int32 := (if 20 ≤ q1.1 then 1 else (if 5 < q1.1 then 2 else 1)); some (x9, q1.2) else some (3, q1.2))))
set_option maxRecDepth 4000 in
theorem w_L_heat {X : xC} {d : Nat} {c g h : Nat} (hc : lay[c]? = some (.inr (.inr (0, [some g, some h])))) (hg : lay[g]? = some (.inl 40)) (hh : lay[h]? = some (.inl 10)) (S : St) : SemG eI X k_L_heat (d + 1) 0 [some (.ref (xB X + c)), none] [] S (f_L_heat c g h  S) := by
  unfold f_L_heat
  refine g_aload_n d_L_heat_0 rfl ?_
  refine g_callV0I d_L_heat_1 ml_L_28 vk_L_hour hc ⟨_, rfl, rfl⟩ (Nat.le_of_ble_eq_true rfl) (w_L_hour (X := X) (d := d) hc hg hh _) (fun q1 => ?_)
  refine g_istore_n d_L_heat_4 (by decide) ?_
  refine g_iload_n d_L_heat_5 rfl ?_
  refine g_bipush d_L_heat_6 ?_
  refine s_icmp_lt d_L_heat_8 (fun u2 => ?_) (fun u2 => ?_)
  · refine g_iload_n d_L_heat_19 rfl ?_
    refine g_bipush d_L_heat_20 ?_
    refine m_icmp_ge d_L_heat_22 (fun hJ4 => g_iconst d_L_heat_30 (g_goto d_L_heat_31 hJ4)) (fun hJ4 => g_iload_n d_L_heat_25 rfl (g_iconst d_L_heat_26 (m_icmp_gt d_L_heat_27 (fun hJ3 => g_iconst d_L_heat_34 hJ3) (fun hJ3 => g_iconst d_L_heat_30 (g_goto d_L_heat_31 hJ3)) hJ4))) ?_
    exact g_ireturn d_L_heat_35 rfl rfl rfl
  · refine g_iload_n d_L_heat_11 rfl ?_
    refine g_bipush d_L_heat_12 ?_
    refine s_icmp_gt d_L_heat_14 (fun u6 => ?_) (fun u6 => ?_)
    · refine g_iload_n d_L_heat_19 rfl ?_
      refine g_bipush d_L_heat_20 ?_
      refine m_icmp_ge d_L_heat_22 (fun hJ8 => g_iconst d_L_heat_30 (g_goto d_L_heat_31 hJ8)) (fun hJ8 => g_iload_n d_L_heat_25 rfl (g_iconst d_L_heat_26 (m_icmp_gt d_L_heat_27 (fun hJ7 => g_iconst d_L_heat_34 hJ7) (fun hJ7 => g_iconst d_L_heat_30 (g_goto d_L_heat_31 hJ7)) hJ8))) ?_
      exact g_ireturn d_L_heat_35 rfl rfl rfl
    · refine g_iconst d_L_heat_17 ?_
      exact g_ireturn d_L_heat_18 rfl rfl rfl
def f_L_gripOf (c g h : Nat) (p1 p2 : Int32) (S : St) : Option (Int32 × St) := ((f_L_hour c g h S).bind fun q1 => let x4 : Int32 := (if q1.1 < 4 then 0 else (if 7 < q1.1 then 0 else 20)); some (((p1 + (3 * p2)) + x4), q1.2))
set_option maxRecDepth 4000 in
theorem w_L_gripOf {X : xC} {d : Nat} {c g h : Nat} (hc : lay[c]? = some (.inr (.inr (0, [some g, some h])))) (hg : lay[g]? = some (.inl 40)) (hh : lay[h]? = some (.inl 10)) (p1 p2 : Int32) (S : St) : SemG eI X k_L_gripOf (d + 1) 0 [some (.ref (xB X + c)), some (.int p1), some (.int p2), none, none] [] S (f_L_gripOf c g h p1 p2 S) := by
  unfold f_L_gripOf
  refine g_aload_n d_L_gripOf_0 rfl ?_
  refine g_callV0I d_L_gripOf_1 ml_L_28 vk_L_hour hc ⟨_, rfl, rfl⟩ (Nat.le_of_ble_eq_true rfl) (w_L_hour (X := X) (d := d) hc hg hh _) (fun q1 => ?_)
  refine g_istore_n d_L_gripOf_4 (by decide) ?_
  refine g_iload_n d_L_gripOf_5 rfl ?_
  refine g_iconst d_L_gripOf_6 ?_
  refine m_icmp_lt d_L_gripOf_7 (fun hJ3 => g_iconst d_L_gripOf_21 hJ3) (fun hJ3 => g_iload_n d_L_gripOf_10 rfl (g_bipush d_L_gripOf_11 (m_icmp_gt d_L_gripOf_13 (fun hJ2 => g_iconst d_L_gripOf_21 hJ2) (fun hJ2 => g_bipush d_L_gripOf_16 (g_goto d_L_gripOf_18 hJ2)) hJ3))) ?_
  refine g_istore d_L_gripOf_22 (by decide) ?_
  refine g_iload_n d_L_gripOf_24 rfl ?_
  refine g_iconst d_L_gripOf_25 ?_
  refine g_iload_n d_L_gripOf_26 rfl ?_
  refine g_imul d_L_gripOf_27 ?_
  refine g_iadd d_L_gripOf_28 ?_
  refine g_iload d_L_gripOf_29 rfl ?_
  refine g_iadd d_L_gripOf_31 ?_
  exact g_ireturn d_L_gripOf_32 rfl rfl rfl
def f_S_weightOf (p1 p2 : Int32) (S : St) : Option (Int32 × St) := some (((20 + (p1 / 2)) + p2), S)
set_option maxRecDepth 4000 in
theorem w_S_weightOf {X : xC} {d : Nat}  (p1 p2 : Int32) (S : St) : SemG eI X k_S_weightOf (d) 0 [some (.int p1), some (.int p2)] [] S (f_S_weightOf  p1 p2 S) := by
  unfold f_S_weightOf
  refine g_bipush d_S_weightOf_0 ?_
  refine g_iload_n d_S_weightOf_2 rfl ?_
  refine g_iconst d_S_weightOf_3 ?_
  refine g_idiv d_S_weightOf_4 (by decide) ?_
  refine g_iadd d_S_weightOf_5 ?_
  refine g_iload_n d_S_weightOf_6 rfl ?_
  refine g_iadd d_S_weightOf_7 ?_
  exact g_ireturn d_S_weightOf_8 rfl rfl rfl
def f_L_weight (c g h : Nat) (S : St) : Option (Int32 × St) := ((f_S_weightOf (S h 2) (S h 1) S).bind fun q1 => some (q1.1, q1.2))
set_option maxRecDepth 4000 in
theorem w_L_weight {X : xC} {d : Nat} {c g h : Nat} (hc : lay[c]? = some (.inr (.inr (0, [some g, some h])))) (hg : lay[g]? = some (.inl 40)) (hh : lay[h]? = some (.inl 10)) (S : St) : SemG eI X k_L_weight (d + 1) 0 [some (.ref (xB X + c))] [] S (f_L_weight c g h  S) := by
  unfold f_L_weight
  refine g_aload_n d_L_weight_0 rfl ?_
  refine g_getR d_L_weight_1 fl_L_9 hc rfl ?_
  refine g_iconst d_L_weight_4 ?_
  refine g_ild d_L_weight_5 hh il_2_10.1 il_2_10.2 ?_
  refine g_aload_n d_L_weight_6 rfl ?_
  refine g_getR d_L_weight_7 fl_L_9 hc rfl ?_
  refine g_iconst d_L_weight_10 ?_
  refine g_ild d_L_weight_11 hh il_1_10.1 il_1_10.2 ?_
  refine g_callN2I d_L_weight_12 nl_L_32 sk_S_weightOf rfl rfl (Nat.le_of_ble_eq_true rfl) (w_S_weightOf (X := X) (d := d) _ _ _) (fun q1 => ?_)
  exact g_ireturn d_L_weight_15 rfl rfl rfl
def f_S_isYard (p1 : Int32) (S : St) : Option (Bool × St) := let x3 : Int32 := (if p1 < 0 then 0 else (if 40 ≤ p1 then 0 else 1)); some ((if p1 < 0 then false else (if 40 ≤ p1 then false else true)), S)
set_option maxRecDepth 4000 in
theorem w_S_isYard {X : xC} {d : Nat}  (p1 : Int32) (S : St) : SemG eB X k_S_isYard (d) 0 [some (.int p1)] [] S (f_S_isYard  p1 S) := by
  unfold f_S_isYard
  refine g_iload_n d_S_isYard_0 rfl ?_
  refine m_if_lt d_S_isYard_1 (fun hJ2 => g_iconst d_S_isYard_14 hJ2) (fun hJ2 => g_iload_n d_S_isYard_4 rfl (g_bipush d_S_isYard_5 (m_icmp_ge d_S_isYard_7 (fun hJ1 => g_iconst d_S_isYard_14 hJ1) (fun hJ1 => g_iconst d_S_isYard_10 (g_goto d_S_isYard_11 hJ1)) hJ2))) ?_
  refine g_zreturn d_S_isYard_15 rfl ?_ rfl
  (repeat' split) <;> rfl
def f_L_isOut (c g h : Nat) (S : St) : Option (Bool × St) := ((f_S_isYard (S h 0) S).bind fun q1 => let x3 : Int32 := (if (bI q1.1) = 0 then 1 else 0); some ((if (bI q1.1) = 0 then true else false), q1.2))
set_option maxRecDepth 4000 in
theorem w_L_isOut {X : xC} {d : Nat} {c g h : Nat} (hc : lay[c]? = some (.inr (.inr (0, [some g, some h])))) (hg : lay[g]? = some (.inl 40)) (hh : lay[h]? = some (.inl 10)) (S : St) : SemG eB X k_L_isOut (d + 1) 0 [some (.ref (xB X + c))] [] S (f_L_isOut c g h  S) := by
  unfold f_L_isOut
  refine g_aload_n d_L_isOut_0 rfl ?_
  refine g_getR d_L_isOut_1 fl_L_9 hc rfl ?_
  refine g_iconst d_L_isOut_4 ?_
  refine g_ild d_L_isOut_5 hh il_0_10.1 il_0_10.2 ?_
  refine g_callN1B d_L_isOut_6 nl_L_24 sk_S_isYard rfl (Nat.le_of_ble_eq_true rfl) (w_S_isYard (X := X) (d := d) _ _) (fun q1 => ?_)
  refine m_if_ne d_L_isOut_9 (fun hJ2 => g_iconst d_L_isOut_16 hJ2) (fun hJ2 => g_iconst d_L_isOut_12 (g_goto d_L_isOut_13 hJ2)) ?_
  refine g_zreturn d_L_isOut_17 rfl ?_ rfl
  (repeat' split) <;> rfl
def f_L_minutesOf (c g h : Nat) (p1 : Int32) (S : St) : Option (Int32 × St) := (if p1 = 1 then some (30, S) else (if p1 = 2 then some (45, S) else (if p1 = 3 then some (40, S) else (if p1 = 4 then some (10, S) else (if p1 = 5 then some (105, S) else (if p1 = 6 then some (1, S) else (if p1 = 7 then some ((1440 - ((600 + (S h 7)) - (600 + (S h 7)) / 1440 * 1440)), S) else some (1, S))))))))
set_option maxRecDepth 4000 in
theorem w_L_minutesOf {X : xC} {d : Nat} {c g h : Nat} (hc : lay[c]? = some (.inr (.inr (0, [some g, some h])))) (hg : lay[g]? = some (.inl 40)) (hh : lay[h]? = some (.inl 10)) (p1 : Int32) (S : St) : SemG eI X k_L_minutesOf (d) 0 [some (.ref (xB X + c)), some (.int p1)] [] S (f_L_minutesOf c g h p1 S) := by
  unfold f_L_minutesOf
  refine g_iload_n d_L_minutesOf_0 rfl ?_
  refine g_ite (fun u1 => ?_) (fun u1 => ?_)
  · refine g_tcase (off := 43) (tgt := 44) d_L_minutesOf_1 u1 (by decide) ?_
    refine g_bipush d_L_minutesOf_44 ?_
    exact g_ireturn d_L_minutesOf_46 rfl rfl rfl
  refine g_ite (fun u2 => ?_) (fun u2 => ?_)
  · refine g_tcase (off := 46) (tgt := 47) d_L_minutesOf_1 u2 (by decide) ?_
    refine g_bipush d_L_minutesOf_47 ?_
    exact g_ireturn d_L_minutesOf_49 rfl rfl rfl
  refine g_ite (fun u3 => ?_) (fun u3 => ?_)
  · refine g_tcase (off := 52) (tgt := 53) d_L_minutesOf_1 u3 (by decide) ?_
    refine g_bipush d_L_minutesOf_53 ?_
    exact g_ireturn d_L_minutesOf_55 rfl rfl rfl
  refine g_ite (fun u4 => ?_) (fun u4 => ?_)
  · refine g_tcase (off := 55) (tgt := 56) d_L_minutesOf_1 u4 (by decide) ?_
    refine g_bipush d_L_minutesOf_56 ?_
    exact g_ireturn d_L_minutesOf_58 rfl rfl rfl
  refine g_ite (fun u5 => ?_) (fun u5 => ?_)
  · refine g_tcase (off := 49) (tgt := 50) d_L_minutesOf_1 u5 (by decide) ?_
    refine g_bipush d_L_minutesOf_50 ?_
    exact g_ireturn d_L_minutesOf_52 rfl rfl rfl
  refine g_ite (fun u6 => ?_) (fun u6 => ?_)
  · refine g_tcase (off := 78) (tgt := 79) d_L_minutesOf_1 u6 (by decide) ?_
    refine g_iconst d_L_minutesOf_79 ?_
    exact g_ireturn d_L_minutesOf_80 rfl rfl rfl
  refine g_ite (fun u7 => ?_) (fun u7 => ?_)
  · refine g_tcase (off := 58) (tgt := 59) d_L_minutesOf_1 u7 (by decide) ?_
    refine g_sipush d_L_minutesOf_59 ?_
    refine g_sipush d_L_minutesOf_62 ?_
    refine g_aload_n d_L_minutesOf_65 rfl ?_
    refine g_getR d_L_minutesOf_66 fl_L_9 hc rfl ?_
    refine g_bipush d_L_minutesOf_69 ?_
    refine g_ild d_L_minutesOf_71 hh il_7_10.1 il_7_10.2 ?_
    refine g_iadd d_L_minutesOf_72 ?_
    refine g_sipush d_L_minutesOf_73 ?_
    refine g_irem d_L_minutesOf_76 (by decide) ?_
    refine g_isub d_L_minutesOf_77 ?_
    exact g_ireturn d_L_minutesOf_78 rfl rfl rfl
  have eu1 := ne32 (n := 1) u1 (by decide)
  have eu2 := ne32 (n := 2) u2 (by decide)
  have eu3 := ne32 (n := 3) u3 (by decide)
  have eu4 := ne32 (n := 4) u4 (by decide)
  have eu5 := ne32 (n := 5) u5 (by decide)
  have eu6 := ne32 (n := 6) u6 (by decide)
  have eu7 := ne32 (n := 7) u7 (by decide)
  refine g_tdef (tgt := 79) d_L_minutesOf_1 (by omega) (by decide) ?_
  refine g_iconst d_L_minutesOf_79 ?_
  exact g_ireturn d_L_minutesOf_80 rfl rfl rfl
def f_S_workOf (p1 : Int32) (S : St) : Option (Int32 × St) := (if p1 = 1 then some (3, S) else (if p1 = 2 then some (3, S) else (if p1 = 3 then some (2, S) else (if p1 = 4 then some (0, S) else (if p1 = 5 then some (4, S) else some (0, S))))))
set_option maxRecDepth 4000 in
theorem w_S_workOf {X : xC} {d : Nat}  (p1 : Int32) (S : St) : SemG eI X k_S_workOf (d) 0 [some (.int p1)] [] S (f_S_workOf  p1 S) := by
  unfold f_S_workOf
  refine g_iload_n d_S_workOf_0 rfl ?_
  refine g_ite (fun u1 => ?_) (fun u1 => ?_)
  · refine g_tcase (off := 35) (tgt := 36) d_S_workOf_1 u1 (by decide) ?_
    refine g_iconst d_S_workOf_36 ?_
    exact g_ireturn d_S_workOf_37 rfl rfl rfl
  refine g_ite (fun u2 => ?_) (fun u2 => ?_)
  · refine g_tcase (off := 37) (tgt := 38) d_S_workOf_1 u2 (by decide) ?_
    refine g_iconst d_S_workOf_38 ?_
    exact g_ireturn d_S_workOf_39 rfl rfl rfl
  refine g_ite (fun u3 => ?_) (fun u3 => ?_)
  · refine g_tcase (off := 41) (tgt := 42) d_S_workOf_1 u3 (by decide) ?_
    refine g_iconst d_S_workOf_42 ?_
    exact g_ireturn d_S_workOf_43 rfl rfl rfl
  refine g_ite (fun u4 => ?_) (fun u4 => ?_)
  · refine g_tcase (off := 43) (tgt := 44) d_S_workOf_1 u4 (by decide) ?_
    refine g_iconst d_S_workOf_44 ?_
    exact g_ireturn d_S_workOf_45 rfl rfl rfl
  refine g_ite (fun u5 => ?_) (fun u5 => ?_)
  · refine g_tcase (off := 39) (tgt := 40) d_S_workOf_1 u5 (by decide) ?_
    refine g_iconst d_S_workOf_40 ?_
    exact g_ireturn d_S_workOf_41 rfl rfl rfl
  have eu1 := ne32 (n := 1) u1 (by decide)
  have eu2 := ne32 (n := 2) u2 (by decide)
  have eu3 := ne32 (n := 3) u3 (by decide)
  have eu4 := ne32 (n := 4) u4 (by decide)
  have eu5 := ne32 (n := 5) u5 (by decide)
  refine g_tdef (tgt := 44) d_S_workOf_1 (by omega) (by decide) ?_
  refine g_iconst d_S_workOf_44 ?_
  exact g_ireturn d_S_workOf_45 rfl rfl rfl
def f_L_drinkOf (c g h : Nat) (p1 : Int32) (S : St) : Option (Int32 × St) := ((f_S_workOf p1 S).bind fun q1 => ((f_L_heat c g h q1.2).bind fun q2 => ((f_L_minutesOf c g h p1 q2.2).bind fun q3 => some ((((((S h 5) * (q1.1 + 1)) * q2.1) * q3.1) / 60), q3.2))))
set_option maxRecDepth 4000 in
theorem w_L_drinkOf {X : xC} {d : Nat} {c g h : Nat} (hc : lay[c]? = some (.inr (.inr (0, [some g, some h])))) (hg : lay[g]? = some (.inl 40)) (hh : lay[h]? = some (.inl 10)) (p1 : Int32) (S : St) : SemG eI X k_L_drinkOf (d + 2) 0 [some (.ref (xB X + c)), some (.int p1)] [] S (f_L_drinkOf c g h p1 S) := by
  unfold f_L_drinkOf
  refine g_aload_n d_L_drinkOf_0 rfl ?_
  refine g_getR d_L_drinkOf_1 fl_L_9 hc rfl ?_
  refine g_iconst d_L_drinkOf_4 ?_
  refine g_ild d_L_drinkOf_5 hh il_5_10.1 il_5_10.2 ?_
  refine g_iload_n d_L_drinkOf_6 rfl ?_
  refine g_callN1I d_L_drinkOf_7 nl_L_36 sk_S_workOf rfl (Nat.le_of_ble_eq_true rfl) (w_S_workOf (X := X) (d := d + 1) _ _) (fun q1 => ?_)
  refine g_iconst d_L_drinkOf_10 ?_
  refine g_iadd d_L_drinkOf_11 ?_
  refine g_imul d_L_drinkOf_12 ?_
  refine g_aload_n d_L_drinkOf_13 rfl ?_
  refine g_callV0I d_L_drinkOf_14 ml_L_40 vk_L_heat hc ⟨_, rfl, rfl⟩ (Nat.le_of_ble_eq_true rfl) (w_L_heat (X := X) (d := d) hc hg hh _) (fun q2 => ?_)
  refine g_imul d_L_drinkOf_17 ?_
  refine g_aload_n d_L_drinkOf_18 rfl ?_
  refine g_iload_n d_L_drinkOf_19 rfl ?_
  refine g_callV1I d_L_drinkOf_20 ml_L_43 vk_L_minutesOf hc ⟨_, rfl, rfl⟩ rfl (Nat.le_of_ble_eq_true rfl) (w_L_minutesOf (X := X) (d := d + 1) hc hg hh _ _) (fun q3 => ?_)
  refine g_imul d_L_drinkOf_23 ?_
  refine g_bipush d_L_drinkOf_24 ?_
  refine g_idiv d_L_drinkOf_26 (by decide) ?_
  exact g_ireturn d_L_drinkOf_27 rfl rfl rfl
def f_L_passHours (c g h : Nat) (p1 : Int32) (S : St) : Option (St) := (if p1 ≤ 0 then some S else let S2 := put S h 7 ((((S h 7) / 60) + p1) * 60); some S2)
set_option maxRecDepth 4000 in
theorem w_L_passHours {X : xC} {d : Nat} {c g h : Nat} (hc : lay[c]? = some (.inr (.inr (0, [some g, some h])))) (hg : lay[g]? = some (.inl 40)) (hh : lay[h]? = some (.inl 10)) (p1 : Int32) (S : St) : SemG eV X k_L_passHours (d) 0 [some (.ref (xB X + c)), some (.int p1)] [] S (f_L_passHours c g h p1 S) := by
  unfold f_L_passHours
  refine g_iload_n d_L_passHours_0 rfl ?_
  refine s_if_le d_L_passHours_1 (fun u1 => ?_) (fun u1 => ?_)
  · exact g_return d_L_passHours_26 rfl rfl
  · refine g_aload_n d_L_passHours_4 rfl ?_
    refine g_getR d_L_passHours_5 fl_L_9 hc rfl ?_
    refine g_bipush d_L_passHours_8 ?_
    refine g_aload_n d_L_passHours_10 rfl ?_
    refine g_getR d_L_passHours_11 fl_L_9 hc rfl ?_
    refine g_bipush d_L_passHours_14 ?_
    refine g_ild d_L_passHours_16 hh il_7_10.1 il_7_10.2 ?_
    refine g_bipush d_L_passHours_17 ?_
    refine g_idiv d_L_passHours_19 (by decide) ?_
    refine g_iload_n d_L_passHours_20 rfl ?_
    refine g_iadd d_L_passHours_21 ?_
    refine g_bipush d_L_passHours_22 ?_
    refine g_imul d_L_passHours_24 ?_
    refine g_ist d_L_passHours_25 hh il_7_10.1 il_7_10.2 ?_
    exact g_return d_L_passHours_26 rfl rfl
def f_L_become (c g h c1 g1 h1 : Nat) (S : St) : Option (St) := let S1 := cpy S h1 h 0 0 10; some S1
set_option maxRecDepth 4000 in
theorem w_L_become {X : xC} {d : Nat} {c g h c1 g1 h1 : Nat} (hc : lay[c]? = some (.inr (.inr (0, [some g, some h])))) (hg : lay[g]? = some (.inl 40)) (hh : lay[h]? = some (.inl 10)) (hc1 : lay[c1]? = some (.inr (.inr (0, [some g1, some h1])))) (hg1 : lay[g1]? = some (.inl 40)) (hh1 : lay[h1]? = some (.inl 10)) (S : St) : SemG eV X k_L_become (d + 1) 0 [some (.ref (xB X + c)), some (.ref (xB X + c1))] [] S (f_L_become c g h c1 g1 h1  S) := by
  unfold f_L_become
  refine g_aload_n d_L_become_0 rfl ?_
  refine g_getR d_L_become_1 fl_L_9 hc1 rfl ?_
  refine g_iconst d_L_become_4 ?_
  refine g_aload_n d_L_become_5 rfl ?_
  refine g_getR d_L_become_6 fl_L_9 hc rfl ?_
  refine g_iconst d_L_become_9 ?_
  refine g_bipush d_L_become_10 ?_
  refine g_copy d_L_become_12 ml_L_18 (Nat.le_of_ble_eq_true rfl) hh1 hh (by decide) ?_
  exact g_return d_L_become_15 rfl rfl
def f_L_since (c g h c1 g1 h1 : Nat) (p2 : Int32) (S : St) : Option (Int32 × St) := (if p2 < 0 then some (0, S) else (if 10 ≤ p2 then some (0, S) else (if inb p2 10 = true then some (((S h (p2).toNatClampNeg) - (S h1 (p2).toNatClampNeg)), S) else none)))
set_option maxRecDepth 4000 in
theorem w_L_since {X : xC} {d : Nat} {c g h c1 g1 h1 : Nat} (hc : lay[c]? = some (.inr (.inr (0, [some g, some h])))) (hg : lay[g]? = some (.inl 40)) (hh : lay[h]? = some (.inl 10)) (hc1 : lay[c1]? = some (.inr (.inr (0, [some g1, some h1])))) (hg1 : lay[g1]? = some (.inl 40)) (hh1 : lay[h1]? = some (.inl 10)) (p2 : Int32) (S : St) : SemG eI X k_L_since (d) 0 [some (.ref (xB X + c)), some (.ref (xB X + c1)), some (.int p2)] [] S (f_L_since c g h c1 g1 h1 p2 S) := by
  unfold f_L_since
  refine g_iload_n d_L_since_0 rfl ?_
  refine s_if_lt d_L_since_1 (fun u1 => ?_) (fun u1 => ?_)
  · refine g_iconst d_L_since_26 ?_
    exact g_ireturn d_L_since_27 rfl rfl rfl
  · refine g_iload_n d_L_since_4 rfl ?_
    refine g_bipush d_L_since_5 ?_
    refine s_icmp_ge d_L_since_7 (fun u2 => ?_) (fun u2 => ?_)
    · refine g_iconst d_L_since_26 ?_
      exact g_ireturn d_L_since_27 rfl rfl rfl
    · refine g_aload_n d_L_since_10 rfl ?_
      refine g_getR d_L_since_11 fl_L_9 hc rfl ?_
      refine g_iload_n d_L_since_14 rfl ?_
      refine g_guard (fun hb3 => ?_)
      refine g_ild d_L_since_15 hh hb3 rfl ?_
      refine g_aload_n d_L_since_16 rfl ?_
      refine g_getR d_L_since_17 fl_L_9 hc1 rfl ?_
      refine g_iload_n d_L_since_20 rfl ?_
      refine g_ild d_L_since_21 hh1 hb3 rfl ?_
      refine g_isub d_L_since_22 ?_
      refine g_goto d_L_since_23 ?_
      exact g_ireturn d_L_since_27 rfl rfl rfl
def f_L_push (c g h : Nat) (p1 p2 p3 : Int32) (S : St) : Option (Bool × St) := ((f_S_isYard (S h 0) S).bind fun q1 => (if (bI q1.1) = 0 then some (false, q1.2) else let S3 := put q1.2 h 9 ((q1.2 h 9) + 1); (if inb (S h 0) 40 = true then ((f_L_gripOf c g h (S3 g ((S h 0)).toNatClampNeg) (S3 h 3) S3).bind fun q5 => let x7 : Int32 := (if p2 ≤ (S h 0) then 0 else 30); ((f_L_weight c g h q5.2).bind fun q8 => (if (q8.1 - p3) ≤ (q5.1 + x7) then let S10 := put q8.2 h 0 ((S h 0) + p1); let S11 := put S10 h 1 0; some (true, S11) else let x12 : Int32 := (if ((q8.2 h 1) + 4) < 99 then ((q8.2 h 1) + 4) else 99); let S13 := put q8.2 h 1 x12; some (false, S13)))) else none)))
set_option maxRecDepth 4000 in
theorem w_L_push {X : xC} {d : Nat} {c g h : Nat} (hc : lay[c]? = some (.inr (.inr (0, [some g, some h])))) (hg : lay[g]? = some (.inl 40)) (hh : lay[h]? = some (.inl 10)) (p1 p2 p3 : Int32) (S : St) : SemG eB X k_L_push (d + 2) 0 [some (.ref (xB X + c)), some (.int p1), some (.int p2), some (.int p3), none, none] [] S (f_L_push c g h p1 p2 p3 S) := by
  unfold f_L_push
  refine g_aload_n d_L_push_0 rfl ?_
  refine g_getR d_L_push_1 fl_L_9 hc rfl ?_
  refine g_iconst d_L_push_4 ?_
  refine g_ild d_L_push_5 hh il_0_10.1 il_0_10.2 ?_
  refine g_istore d_L_push_6 (by decide) ?_
  refine g_iload d_L_push_8 rfl ?_
  refine g_callN1B d_L_push_10 nl_L_24 sk_S_isYard rfl (Nat.le_of_ble_eq_true rfl) (w_S_isYard (X := X) (d := d + 1) _ _) (fun q1 => ?_)
  refine s_if_ne d_L_push_13 (fun u2 => ?_) (fun u2 => ?_)
  · refine g_aload_n d_L_push_18 rfl ?_
    refine g_getR d_L_push_19 fl_L_9 hc rfl ?_
    refine g_bipush d_L_push_22 ?_
    refine g_dup2 d_L_push_24 rfl rfl ?_
    refine g_ild d_L_push_25 hh il_9_10.1 il_9_10.2 ?_
    refine g_iconst d_L_push_26 ?_
    refine g_iadd d_L_push_27 ?_
    refine g_ist d_L_push_28 hh il_9_10.1 il_9_10.2 ?_
    refine g_aload_n d_L_push_29 rfl ?_
    refine g_aload_n d_L_push_30 rfl ?_
    refine g_getR d_L_push_31 fl_L_15 hc rfl ?_
    refine g_iload d_L_push_34 rfl ?_
    refine g_guard (fun hb4 => ?_)
    refine g_ild d_L_push_36 hg hb4 rfl ?_
    refine g_aload_n d_L_push_37 rfl ?_
    refine g_getR d_L_push_38 fl_L_9 hc rfl ?_
    refine g_iconst d_L_push_41 ?_
    refine g_ild d_L_push_42 hh il_3_10.1 il_3_10.2 ?_
    refine g_callV2I d_L_push_43 ml_L_73 vk_L_gripOf hc ⟨_, rfl, rfl⟩ rfl rfl (Nat.le_of_ble_eq_true rfl) (w_L_gripOf (X := X) (d := d) hc hg hh _ _ _) (fun q5 => ?_)
    refine g_iload d_L_push_46 rfl ?_
    refine g_iload_n d_L_push_48 rfl ?_
    refine m_icmp_ge d_L_push_49 (fun hJ6 => g_iconst d_L_push_57 hJ6) (fun hJ6 => g_bipush d_L_push_52 (g_goto d_L_push_54 hJ6)) ?_
    refine g_iadd d_L_push_58 ?_
    refine g_istore d_L_push_59 (by decide) ?_
    refine g_iload d_L_push_61 rfl ?_
    refine g_aload_n d_L_push_63 rfl ?_
    refine g_callV0I d_L_push_64 ml_L_76 vk_L_weight hc ⟨_, rfl, rfl⟩ (Nat.le_of_ble_eq_true rfl) (w_L_weight (X := X) (d := d) hc hg hh _) (fun q8 => ?_)
    refine g_iload_n d_L_push_67 rfl ?_
    refine g_isub d_L_push_68 ?_
    refine s_icmp_ge d_L_push_69 (fun u9 => ?_) (fun u9 => ?_)
    · refine g_aload_n d_L_push_93 rfl ?_
      refine g_getR d_L_push_94 fl_L_9 hc rfl ?_
      refine g_iconst d_L_push_97 ?_
      refine g_iload d_L_push_98 rfl ?_
      refine g_iload_n d_L_push_100 rfl ?_
      refine g_iadd d_L_push_101 ?_
      refine g_ist d_L_push_102 hh il_0_10.1 il_0_10.2 ?_
      refine g_aload_n d_L_push_103 rfl ?_
      refine g_getR d_L_push_104 fl_L_9 hc rfl ?_
      refine g_iconst d_L_push_107 ?_
      refine g_iconst d_L_push_108 ?_
      refine g_ist d_L_push_109 hh il_1_10.1 il_1_10.2 ?_
      refine g_iconst d_L_push_110 ?_
      refine g_zreturn d_L_push_111 rfl ?_ rfl
      rfl
    · refine g_aload_n d_L_push_72 rfl ?_
      refine g_getR d_L_push_73 fl_L_9 hc rfl ?_
      refine g_iconst d_L_push_76 ?_
      refine g_bipush d_L_push_77 ?_
      refine g_aload_n d_L_push_79 rfl ?_
      refine g_getR d_L_push_80 fl_L_9 hc rfl ?_
      refine g_iconst d_L_push_83 ?_
      refine g_ild d_L_push_84 hh il_1_10.1 il_1_10.2 ?_
      refine g_iconst d_L_push_85 ?_
      refine g_iadd d_L_push_86 ?_
      refine g_mmin d_L_push_87 ml_L_62 (Nat.le_of_ble_eq_true rfl) ?_
      refine g_ist d_L_push_90 hh il_1_10.1 il_1_10.2 ?_
      refine g_iconst d_L_push_91 ?_
      refine g_zreturn d_L_push_92 rfl ?_ rfl
      rfl
  · refine g_iconst d_L_push_16 ?_
    refine g_zreturn d_L_push_17 rfl ?_ rfl
    rfl
def f_S_kindAbove (p1 : Int32) (S : St) : Option (Int32 × St) := (if p1 = 2 then some (1, S) else (if p1 = 5 then some (2, S) else some (0, S)))
set_option maxRecDepth 4000 in
theorem w_S_kindAbove {X : xC} {d : Nat}  (p1 : Int32) (S : St) : SemG eI X k_S_kindAbove (d) 0 [some (.int p1)] [] S (f_S_kindAbove  p1 S) := by
  unfold f_S_kindAbove
  refine g_iload_n d_S_kindAbove_0 rfl ?_
  refine g_ite (fun u1 => ?_) (fun u1 => ?_)
  · refine g_lcase (off := 27) (tgt := 28) d_S_kindAbove_1 u1 (by decide) ?_
    refine g_iconst d_S_kindAbove_28 ?_
    exact g_ireturn d_S_kindAbove_29 rfl rfl rfl
  refine g_ite (fun u2 => ?_) (fun u2 => ?_)
  · refine g_lcase (off := 29) (tgt := 30) d_S_kindAbove_1 u2 (by decide) ?_
    refine g_iconst d_S_kindAbove_30 ?_
    exact g_ireturn d_S_kindAbove_31 rfl rfl rfl
  refine g_ldef2 (tgt := 32) d_S_kindAbove_1 (ne32 u1 (by decide)) (ne32 u2 (by decide)) (by decide) (by decide) ?_
  refine g_iconst d_S_kindAbove_32 ?_
  exact g_ireturn d_S_kindAbove_33 rfl rfl rfl
def f_S_isOfKind_L4 : Nat → Int32 → Int32 → Int32 → Int32 → St → Option (Bool × St)
  | 0, _, _, _, _, _ => none
  | n + 1, y0, y1, y2, y3, S => (if 8 ≤ y3 then let x3 : Int32 := (if y2 = y1 then 1 else 0); some ((if y2 = y1 then true else false), S) else (if y2 = y1 then let x6 : Int32 := (if y2 = y1 then 1 else 0); some ((if y2 = y1 then true else false), S) else (if y2 = 0 then let x9 : Int32 := (if y2 = y1 then 1 else 0); some ((if y2 = y1 then true else false), S) else ((f_S_kindAbove y2 S).bind fun q10 => f_S_isOfKind_L4   n y0 y1 q10.1 (y3 + 1) q10.2))))
set_option maxRecDepth 4000 in
theorem w_S_isOfKind_L4 {X : xC} {d : Nat}   : ∀ (n : Nat) (y0 : Int32) (y1 : Int32) (y2 : Int32) (y3 : Int32) (S : St), SemG eB X k_S_isOfKind (d + 1) 4 [some (.int y0), some (.int y1), some (.int y2), some (.int y3)] [] S (f_S_isOfKind_L4   n y0 y1 y2 y3 S) := by
  intro n
  induction n with
  | zero => intro _ _ _ _ _; exact g_none
  | succ n ih =>
    intro y0 y1 y2 y3 S
    unfold f_S_isOfKind_L4
    refine g_iload_n d_S_isOfKind_4 rfl ?_
    refine g_bipush d_S_isOfKind_5 ?_
    refine s_icmp_ge d_S_isOfKind_7 (fun u1 => ?_) (fun u1 => ?_)
    · refine g_iload_n d_S_isOfKind_30 rfl ?_
      refine g_iload_n d_S_isOfKind_31 rfl ?_
      refine m_icmp_ne d_S_isOfKind_32 (fun hJ2 => g_iconst d_S_isOfKind_39 hJ2) (fun hJ2 => g_iconst d_S_isOfKind_35 (g_goto d_S_isOfKind_36 hJ2)) ?_
      refine g_zreturn d_S_isOfKind_40 rfl ?_ rfl
      (repeat' split) <;> rfl
    · refine g_iload_n d_S_isOfKind_10 rfl ?_
      refine g_iload_n d_S_isOfKind_11 rfl ?_
      refine s_icmp_eq d_S_isOfKind_12 (fun u4 => ?_) (fun u4 => ?_)
      · refine g_iload_n d_S_isOfKind_30 rfl ?_
        refine g_iload_n d_S_isOfKind_31 rfl ?_
        refine m_icmp_ne d_S_isOfKind_32 (fun hJ5 => g_iconst d_S_isOfKind_39 hJ5) (fun hJ5 => g_iconst d_S_isOfKind_35 (g_goto d_S_isOfKind_36 hJ5)) ?_
        refine g_zreturn d_S_isOfKind_40 rfl ?_ rfl
        (repeat' split) <;> rfl
      · refine g_iload_n d_S_isOfKind_15 rfl ?_
        refine s_if_eq d_S_isOfKind_16 (fun u7 => ?_) (fun u7 => ?_)
        · refine g_iload_n d_S_isOfKind_30 rfl ?_
          refine g_iload_n d_S_isOfKind_31 rfl ?_
          refine m_icmp_ne d_S_isOfKind_32 (fun hJ8 => g_iconst d_S_isOfKind_39 hJ8) (fun hJ8 => g_iconst d_S_isOfKind_35 (g_goto d_S_isOfKind_36 hJ8)) ?_
          refine g_zreturn d_S_isOfKind_40 rfl ?_ rfl
          (repeat' split) <;> rfl
        · refine g_iload_n d_S_isOfKind_19 rfl ?_
          refine g_callS1I d_S_isOfKind_20 ml_S_245 sk_S_kindAbove rfl (Nat.le_of_ble_eq_true rfl) (w_S_kindAbove (X := X) (d := d) _ _) (fun q10 => ?_)
          refine g_istore_n d_S_isOfKind_23 (by decide) ?_
          refine g_iinc d_S_isOfKind_24 (by decide) rfl ?_
          refine g_goto d_S_isOfKind_27 ?_
          exact ih _ _ _ _ _
def f_S_isOfKind (p1 p2 : Int32) (S : St) : Option (Bool × St) := f_S_isOfKind_L4   200 p1 p2 p1 0 S
set_option maxRecDepth 4000 in
theorem w_S_isOfKind {X : xC} {d : Nat}  (p1 p2 : Int32) (S : St) : SemG eB X k_S_isOfKind (d + 1) 0 [some (.int p1), some (.int p2), none, none] [] S (f_S_isOfKind  p1 p2 S) := by
  unfold f_S_isOfKind
  refine g_iload_n d_S_isOfKind_0 rfl ?_
  refine g_istore_n d_S_isOfKind_1 (by decide) ?_
  refine g_iconst d_S_isOfKind_2 ?_
  refine g_istore_n d_S_isOfKind_3 (by decide) ?_
  exact w_S_isOfKind_L4 (X := X) (d := d) 200 _ _ _ _ _
def f_L_drive_L77 (c g h : Nat) : Nat → Int32 → Int32 → Int32 → Int32 → Int32 → Int32 → Int32 → Int32 → St → Option (St)
  | 0, _, _, _, _, _, _, _, _, _ => none
  | n + 1, y1, y2, y3, y4, y5, y6, y7, y8, S => (if y6 ≤ y8 then some S else (if y7 = 0 then some S else ((f_L_push c g h y5 y3 y4 S).bind fun q13 => f_L_drive_L77 c g h  n y1 y2 y3 y4 y5 y6 (bI q13.1) (y8 + 1) q13.2)))
set_option maxRecDepth 4000 in
theorem w_L_drive_L77 {X : xC} {d : Nat} {c g h : Nat} (hc : lay[c]? = some (.inr (.inr (0, [some g, some h])))) (hg : lay[g]? = some (.inl 40)) (hh : lay[h]? = some (.inl 10))  : ∀ (n : Nat) (y1 : Int32) (y2 : Int32) (y3 : Int32) (y4 : Int32) (y5 : Int32) (y6 : Int32) (y7 : Int32) (y8 : Int32) (S : St), SemG eV X k_L_drive (d + 3) 77 [some (.ref (xB X + c)), some (.int y1), some (.int y2), some (.int y3), some (.int y4), some (.int y5), some (.int y6), some (.int y7), some (.int y8)] [] S (f_L_drive_L77 c g h  n y1 y2 y3 y4 y5 y6 y7 y8 S) := by
  intro n
  induction n with
  | zero => intro _ _ _ _ _ _ _ _ _; exact g_none
  | succ n ih =>
    intro y1 y2 y3 y4 y5 y6 y7 y8 S
    unfold f_L_drive_L77
    refine g_iload d_L_drive_77 rfl ?_
    refine g_iload d_L_drive_79 rfl ?_
    refine s_icmp_ge d_L_drive_81 (fun u11 => ?_) (fun u11 => ?_)
    · exact g_return d_L_drive_106 rfl rfl
    · refine g_iload d_L_drive_84 rfl ?_
      refine s_if_eq d_L_drive_86 (fun u12 => ?_) (fun u12 => ?_)
      · exact g_return d_L_drive_106 rfl rfl
      · refine g_aload_n d_L_drive_89 rfl ?_
        refine g_iload d_L_drive_90 rfl ?_
        refine g_iload_n d_L_drive_92 rfl ?_
        refine g_iload d_L_drive_93 rfl ?_
        refine g_callV3B d_L_drive_95 ml_L_69 vk_L_push hc ⟨_, rfl, rfl⟩ rfl rfl rfl (Nat.le_of_ble_eq_true rfl) (w_L_push (X := X) (d := d) hc hg hh _ _ _ _) (fun q13 => ?_)
        refine g_istore d_L_drive_98 (by decide) ?_
        refine g_iinc d_L_drive_100 (by decide) rfl ?_
        refine g_goto d_L_drive_103 ?_
        exact ih _ _ _ _ _ _ _ _ _
def f_L_drive (c g h : Nat) (p1 : Int32) (S : St) : Option (St) := ((f_S_isOfKind p1 2 S).bind fun q1 => let x3 : Int32 := (if (bI q1.1) = 0 then 0 else (q1.2 h 4)); let x5 : Int32 := (if x3 ≤ 0 then 0 else ((q1.2 h 0) + x3)); let x7 : Int32 := (if p1 = 5 then 15 else 0); let x9 : Int32 := (if p1 = 6 then (-1) else 1); let x10 : Int32 := (if 3 < (x3 + 1) then (x3 + 1) else 3); f_L_drive_L77 c g h  200 p1 x3 x5 x7 x9 x10 1 0 q1.2)
set_option maxRecDepth 4000 in
theorem w_L_drive {X : xC} {d : Nat} {c g h : Nat} (hc : lay[c]? = some (.inr (.inr (0, [some g, some h])))) (hg : lay[g]? = some (.inl 40)) (hh : lay[h]? = some (.inl 10)) (p1 : Int32) (S : St) : SemG eV X k_L_drive (d + 3) 0 [some (.ref (xB X + c)), some (.int p1), none, none, none, none, none, none, none] [] S (f_L_drive c g h p1 S) := by
  unfold f_L_drive
  refine g_iload_n d_L_drive_0 rfl ?_
  refine g_iconst d_L_drive_1 ?_
  refine g_callN2B d_L_drive_2 nl_L_53 sk_S_isOfKind rfl rfl (Nat.le_of_ble_eq_true rfl) (w_S_isOfKind (X := X) (d := d + 1) _ _ _) (fun q1 => ?_)
  refine m_if_eq d_L_drive_5 (fun hJ2 => g_iconst d_L_drive_17 hJ2) (fun hJ2 => g_aload_n d_L_drive_8 rfl (g_getR d_L_drive_9 fl_L_9 hc rfl (g_iconst d_L_drive_12 (g_ild d_L_drive_13 hh il_4_10.1 il_4_10.2 (g_goto d_L_drive_14 hJ2))))) ?_
  refine g_istore_n d_L_drive_18 (by decide) ?_
  refine g_iload_n d_L_drive_19 rfl ?_
  refine m_if_le d_L_drive_20 (fun hJ4 => g_iconst d_L_drive_34 hJ4) (fun hJ4 => g_aload_n d_L_drive_23 rfl (g_getR d_L_drive_24 fl_L_9 hc rfl (g_iconst d_L_drive_27 (g_ild d_L_drive_28 hh il_0_10.1 il_0_10.2 (g_iload_n d_L_drive_29 rfl (g_iadd d_L_drive_30 (g_goto d_L_drive_31 hJ4))))))) ?_
  refine g_istore_n d_L_drive_35 (by decide) ?_
  refine g_iload_n d_L_drive_36 rfl ?_
  refine g_iconst d_L_drive_37 ?_
  refine m_icmp_ne d_L_drive_38 (fun hJ6 => g_iconst d_L_drive_46 hJ6) (fun hJ6 => g_bipush d_L_drive_41 (g_goto d_L_drive_43 hJ6)) ?_
  refine g_istore d_L_drive_47 (by decide) ?_
  refine g_iload_n d_L_drive_49 rfl ?_
  refine g_bipush d_L_drive_50 ?_
  refine m_icmp_ne d_L_drive_52 (fun hJ8 => g_iconst d_L_drive_59 hJ8) (fun hJ8 => g_iconst d_L_drive_55 (g_goto d_L_drive_56 hJ8)) ?_
  refine g_istore d_L_drive_60 (by decide) ?_
  refine g_iconst d_L_drive_62 ?_
  refine g_iload_n d_L_drive_63 rfl ?_
  refine g_iconst d_L_drive_64 ?_
  refine g_iadd d_L_drive_65 ?_
  refine g_mmax d_L_drive_66 ml_L_57 (Nat.le_of_ble_eq_true rfl) ?_
  refine g_istore d_L_drive_69 (by decide) ?_
  refine g_iconst d_L_drive_71 ?_
  refine g_istore d_L_drive_72 (by decide) ?_
  refine g_iconst d_L_drive_74 ?_
  refine g_istore d_L_drive_75 (by decide) ?_
  exact w_L_drive_L77 (X := X) (d := d) hc hg hh 200 _ _ _ _ _ _ _ _ _
def f_L_carriesOut (c g h : Nat) (p1 : Int32) (S : St) : Option (Bool × St) := ((f_L_drinkOf c g h p1 S).bind fun q1 => ((f_L_isOut c g h q1.2).bind fun q2 => (if (bI q2.1) = 0 then (if q1.1 ≤ (q2.2 h 6) then ((f_L_minutesOf c g h p1 q2.2).bind fun q5 => let S6 := put q5.2 h 7 ((q2.2 h 7) + q5.1); let S7 := put S6 h 6 ((S6 h 6) - q1.1); let S8 := put S7 h 8 ((S7 h 8) + q1.1); ((f_S_isOfKind p1 1 S8).bind fun q9 => (if (bI q9.1) = 0 then (if p1 = 3 then let x19 : Int32 := (if 0 < ((q9.2 h 2) - 10) then ((q9.2 h 2) - 10) else 0); let S20 := put q9.2 h 2 x19; (if p1 = 4 then let x24 : Int32 := (if ((S20 h 3) + 3) < 9 then ((S20 h 3) + 3) else 9); let S25 := put S20 h 3 x24; (if p1 = 7 then some (true, S25) else ((f_L_drive c g h p1 S25).bind fun q27 => some (true, q27))) else (if p1 = 7 then some (true, S20) else ((f_L_drive c g h p1 S20).bind fun q23 => some (true, q23)))) else (if p1 = 4 then let x15 : Int32 := (if ((q9.2 h 3) + 3) < 9 then ((q9.2 h 3) + 3) else 9); let S16 := put q9.2 h 3 x15; (if p1 = 7 then some (true, S16) else ((f_L_drive c g h p1 S16).bind fun q18 => some (true, q18))) else (if p1 = 7 then some (true, q9.2) else ((f_L_drive c g h p1 q9.2).bind fun q14 => some (true, q14))))) else let x28 : Int32 := (if 0 < ((q9.2 h 1) - (10 * (q9.2 h 5))) then ((q9.2 h 1) - (10 * (q9.2 h 5))) else 0); let S29 := put q9.2 h 1 x28; (if p1 = 3 then let x38 : Int32 := (if 0 < ((S29 h 2) - 10) then ((S29 h 2) - 10) else 0); let S39 := put S29 h 2 x38; (if p1 = 4 then let x43 : Int32 := (if ((S39 h 3) + 3) < 9 then ((S39 h 3) + 3) else 9); let S44 := put S39 h 3 x43; (if p1 = 7 then some (true, S44) else ((f_L_drive c g h p1 S44).bind fun q46 => some (true, q46))) else (if p1 = 7 then some (true, S39) else ((f_L_drive c g h p1 S39).bind fun q42 => some (true, q42)))) else (if p1 = 4 then let x34 : Int32 := (if ((S29 h 3) + 3) < 9 then ((S29 h 3) + 3) else 9); let S35 := put S29 h 3 x34; (if p1 = 7 then some (true, S35) else ((f_L_drive c g h p1 S35).bind fun q37 => some (true, q37))) else (if p1 = 7 then some (true, S29) else ((f_L_drive c g h p1 S29).bind fun q33 => some (true, q33)))))))) else some (false, q2.2)) else some (false, q2.2))))
set_option maxRecDepth 4000 in
theorem w_L_carriesOut {X : xC} {d : Nat} {c g h : Nat} (hc : lay[c]? = some (.inr (.inr (0, [some g, some h])))) (hg : lay[g]? = some (.inl 40)) (hh : lay[h]? = some (.inl 10)) (p1 : Int32) (S : St) : SemG eB X k_L_carriesOut (d + 4) 0 [some (.ref (xB X + c)), some (.int p1), none] [] S (f_L_carriesOut c g h p1 S) := by
  unfold f_L_carriesOut
  refine g_aload_n d_L_carriesOut_0 rfl ?_
  refine g_iload_n d_L_carriesOut_1 rfl ?_
  refine g_callV1I d_L_carriesOut_2 ml_L_46 vk_L_drinkOf hc ⟨_, rfl, rfl⟩ rfl (Nat.le_of_ble_eq_true rfl) (w_L_drinkOf (X := X) (d := d + 1) hc hg hh _ _) (fun q1 => ?_)
  refine g_istore_n d_L_carriesOut_5 (by decide) ?_
  refine g_aload_n d_L_carriesOut_6 rfl ?_
  refine g_callV0B d_L_carriesOut_7 ml_L_49 vk_L_isOut hc ⟨_, rfl, rfl⟩ (Nat.le_of_ble_eq_true rfl) (w_L_isOut (X := X) (d := d + 2) hc hg hh _) (fun q2 => ?_)
  refine s_if_ne d_L_carriesOut_10 (fun u3 => ?_) (fun u3 => ?_)
  · refine g_iconst d_L_carriesOut_24 ?_
    refine g_zreturn d_L_carriesOut_25 rfl ?_ rfl
    rfl
  · refine g_aload_n d_L_carriesOut_13 rfl ?_
    refine g_getR d_L_carriesOut_14 fl_L_9 hc rfl ?_
    refine g_bipush d_L_carriesOut_17 ?_
    refine g_ild d_L_carriesOut_19 hh il_6_10.1 il_6_10.2 ?_
    refine g_iload_n d_L_carriesOut_20 rfl ?_
    refine s_icmp_ge d_L_carriesOut_21 (fun u4 => ?_) (fun u4 => ?_)
    · refine g_aload_n d_L_carriesOut_26 rfl ?_
      refine g_getR d_L_carriesOut_27 fl_L_9 hc rfl ?_
      refine g_bipush d_L_carriesOut_30 ?_
      refine g_dup2 d_L_carriesOut_32 rfl rfl ?_
      refine g_ild d_L_carriesOut_33 hh il_7_10.1 il_7_10.2 ?_
      refine g_aload_n d_L_carriesOut_34 rfl ?_
      refine g_iload_n d_L_carriesOut_35 rfl ?_
      refine g_callV1I d_L_carriesOut_36 ml_L_43 vk_L_minutesOf hc ⟨_, rfl, rfl⟩ rfl (Nat.le_of_ble_eq_true rfl) (w_L_minutesOf (X := X) (d := d + 3) hc hg hh _ _) (fun q5 => ?_)
      refine g_iadd d_L_carriesOut_39 ?_
      refine g_ist d_L_carriesOut_40 hh il_7_10.1 il_7_10.2 ?_
      refine g_aload_n d_L_carriesOut_41 rfl ?_
      refine g_getR d_L_carriesOut_42 fl_L_9 hc rfl ?_
      refine g_bipush d_L_carriesOut_45 ?_
      refine g_dup2 d_L_carriesOut_47 rfl rfl ?_
      refine g_ild d_L_carriesOut_48 hh il_6_10.1 il_6_10.2 ?_
      refine g_iload_n d_L_carriesOut_49 rfl ?_
      refine g_isub d_L_carriesOut_50 ?_
      refine g_ist d_L_carriesOut_51 hh il_6_10.1 il_6_10.2 ?_
      refine g_aload_n d_L_carriesOut_52 rfl ?_
      refine g_getR d_L_carriesOut_53 fl_L_9 hc rfl ?_
      refine g_bipush d_L_carriesOut_56 ?_
      refine g_dup2 d_L_carriesOut_58 rfl rfl ?_
      refine g_ild d_L_carriesOut_59 hh il_8_10.1 il_8_10.2 ?_
      refine g_iload_n d_L_carriesOut_60 rfl ?_
      refine g_iadd d_L_carriesOut_61 ?_
      refine g_ist d_L_carriesOut_62 hh il_8_10.1 il_8_10.2 ?_
      refine g_iload_n d_L_carriesOut_63 rfl ?_
      refine g_iconst d_L_carriesOut_64 ?_
      refine g_callN2B d_L_carriesOut_65 nl_L_53 sk_S_isOfKind rfl rfl (Nat.le_of_ble_eq_true rfl) (w_S_isOfKind (X := X) (d := d + 2) _ _ _) (fun q9 => ?_)
      refine s_if_eq d_L_carriesOut_68 (fun u10 => ?_) (fun u10 => ?_)
      · refine g_iload_n d_L_carriesOut_97 rfl ?_
        refine g_iconst d_L_carriesOut_98 ?_
        refine s_icmp_ne d_L_carriesOut_99 (fun u11 => ?_) (fun u11 => ?_)
        · refine g_iload_n d_L_carriesOut_121 rfl ?_
          refine g_iconst d_L_carriesOut_122 ?_
          refine s_icmp_ne d_L_carriesOut_123 (fun u12 => ?_) (fun u12 => ?_)
          · refine g_iload_n d_L_carriesOut_145 rfl ?_
            refine g_bipush d_L_carriesOut_146 ?_
            refine s_icmp_eq d_L_carriesOut_148 (fun u13 => ?_) (fun u13 => ?_)
            · refine g_iconst d_L_carriesOut_156 ?_
              refine g_zreturn d_L_carriesOut_157 rfl ?_ rfl
              rfl
            · refine g_aload_n d_L_carriesOut_151 rfl ?_
              refine g_iload_n d_L_carriesOut_152 rfl ?_
              refine g_callV1V d_L_carriesOut_153 ml_L_65 vk_L_drive hc ⟨_, rfl, rfl⟩ rfl (Nat.le_of_ble_eq_true rfl) (w_L_drive (X := X) (d := d) hc hg hh _ _) (fun q14 => ?_)
              refine g_iconst d_L_carriesOut_156 ?_
              refine g_zreturn d_L_carriesOut_157 rfl ?_ rfl
              rfl
          · refine g_aload_n d_L_carriesOut_126 rfl ?_
            refine g_getR d_L_carriesOut_127 fl_L_9 hc rfl ?_
            refine g_iconst d_L_carriesOut_130 ?_
            refine g_bipush d_L_carriesOut_131 ?_
            refine g_aload_n d_L_carriesOut_133 rfl ?_
            refine g_getR d_L_carriesOut_134 fl_L_9 hc rfl ?_
            refine g_iconst d_L_carriesOut_137 ?_
            refine g_ild d_L_carriesOut_138 hh il_3_10.1 il_3_10.2 ?_
            refine g_iconst d_L_carriesOut_139 ?_
            refine g_iadd d_L_carriesOut_140 ?_
            refine g_mmin d_L_carriesOut_141 ml_L_62 (Nat.le_of_ble_eq_true rfl) ?_
            refine g_ist d_L_carriesOut_144 hh il_3_10.1 il_3_10.2 ?_
            refine g_iload_n d_L_carriesOut_145 rfl ?_
            refine g_bipush d_L_carriesOut_146 ?_
            refine s_icmp_eq d_L_carriesOut_148 (fun u17 => ?_) (fun u17 => ?_)
            · refine g_iconst d_L_carriesOut_156 ?_
              refine g_zreturn d_L_carriesOut_157 rfl ?_ rfl
              rfl
            · refine g_aload_n d_L_carriesOut_151 rfl ?_
              refine g_iload_n d_L_carriesOut_152 rfl ?_
              refine g_callV1V d_L_carriesOut_153 ml_L_65 vk_L_drive hc ⟨_, rfl, rfl⟩ rfl (Nat.le_of_ble_eq_true rfl) (w_L_drive (X := X) (d := d) hc hg hh _ _) (fun q18 => ?_)
              refine g_iconst d_L_carriesOut_156 ?_
              refine g_zreturn d_L_carriesOut_157 rfl ?_ rfl
              rfl
        · refine g_aload_n d_L_carriesOut_102 rfl ?_
          refine g_getR d_L_carriesOut_103 fl_L_9 hc rfl ?_
          refine g_iconst d_L_carriesOut_106 ?_
          refine g_iconst d_L_carriesOut_107 ?_
          refine g_aload_n d_L_carriesOut_108 rfl ?_
          refine g_getR d_L_carriesOut_109 fl_L_9 hc rfl ?_
          refine g_iconst d_L_carriesOut_112 ?_
          refine g_ild d_L_carriesOut_113 hh il_2_10.1 il_2_10.2 ?_
          refine g_bipush d_L_carriesOut_114 ?_
          refine g_isub d_L_carriesOut_116 ?_
          refine g_mmax d_L_carriesOut_117 ml_L_57 (Nat.le_of_ble_eq_true rfl) ?_
          refine g_ist d_L_carriesOut_120 hh il_2_10.1 il_2_10.2 ?_
          refine g_iload_n d_L_carriesOut_121 rfl ?_
          refine g_iconst d_L_carriesOut_122 ?_
          refine s_icmp_ne d_L_carriesOut_123 (fun u21 => ?_) (fun u21 => ?_)
          · refine g_iload_n d_L_carriesOut_145 rfl ?_
            refine g_bipush d_L_carriesOut_146 ?_
            refine s_icmp_eq d_L_carriesOut_148 (fun u22 => ?_) (fun u22 => ?_)
            · refine g_iconst d_L_carriesOut_156 ?_
              refine g_zreturn d_L_carriesOut_157 rfl ?_ rfl
              rfl
            · refine g_aload_n d_L_carriesOut_151 rfl ?_
              refine g_iload_n d_L_carriesOut_152 rfl ?_
              refine g_callV1V d_L_carriesOut_153 ml_L_65 vk_L_drive hc ⟨_, rfl, rfl⟩ rfl (Nat.le_of_ble_eq_true rfl) (w_L_drive (X := X) (d := d) hc hg hh _ _) (fun q23 => ?_)
              refine g_iconst d_L_carriesOut_156 ?_
              refine g_zreturn d_L_carriesOut_157 rfl ?_ rfl
              rfl
          · refine g_aload_n d_L_carriesOut_126 rfl ?_
            refine g_getR d_L_carriesOut_127 fl_L_9 hc rfl ?_
            refine g_iconst d_L_carriesOut_130 ?_
            refine g_bipush d_L_carriesOut_131 ?_
            refine g_aload_n d_L_carriesOut_133 rfl ?_
            refine g_getR d_L_carriesOut_134 fl_L_9 hc rfl ?_
            refine g_iconst d_L_carriesOut_137 ?_
            refine g_ild d_L_carriesOut_138 hh il_3_10.1 il_3_10.2 ?_
            refine g_iconst d_L_carriesOut_139 ?_
            refine g_iadd d_L_carriesOut_140 ?_
            refine g_mmin d_L_carriesOut_141 ml_L_62 (Nat.le_of_ble_eq_true rfl) ?_
            refine g_ist d_L_carriesOut_144 hh il_3_10.1 il_3_10.2 ?_
            refine g_iload_n d_L_carriesOut_145 rfl ?_
            refine g_bipush d_L_carriesOut_146 ?_
            refine s_icmp_eq d_L_carriesOut_148 (fun u26 => ?_) (fun u26 => ?_)
            · refine g_iconst d_L_carriesOut_156 ?_
              refine g_zreturn d_L_carriesOut_157 rfl ?_ rfl
              rfl
            · refine g_aload_n d_L_carriesOut_151 rfl ?_
              refine g_iload_n d_L_carriesOut_152 rfl ?_
              refine g_callV1V d_L_carriesOut_153 ml_L_65 vk_L_drive hc ⟨_, rfl, rfl⟩ rfl (Nat.le_of_ble_eq_true rfl) (w_L_drive (X := X) (d := d) hc hg hh _ _) (fun q27 => ?_)
              refine g_iconst d_L_carriesOut_156 ?_
              refine g_zreturn d_L_carriesOut_157 rfl ?_ rfl
              rfl
      · refine g_aload_n d_L_carriesOut_71 rfl ?_
        refine g_getR d_L_carriesOut_72 fl_L_9 hc rfl ?_
        refine g_iconst d_L_carriesOut_75 ?_
        refine g_iconst d_L_carriesOut_76 ?_
        refine g_aload_n d_L_carriesOut_77 rfl ?_
        refine g_getR d_L_carriesOut_78 fl_L_9 hc rfl ?_
        refine g_iconst d_L_carriesOut_81 ?_
        refine g_ild d_L_carriesOut_82 hh il_1_10.1 il_1_10.2 ?_
        refine g_bipush d_L_carriesOut_83 ?_
        refine g_aload_n d_L_carriesOut_85 rfl ?_
        refine g_getR d_L_carriesOut_86 fl_L_9 hc rfl ?_
        refine g_iconst d_L_carriesOut_89 ?_
        refine g_ild d_L_carriesOut_90 hh il_5_10.1 il_5_10.2 ?_
        refine g_imul d_L_carriesOut_91 ?_
        refine g_isub d_L_carriesOut_92 ?_
        refine g_mmax d_L_carriesOut_93 ml_L_57 (Nat.le_of_ble_eq_true rfl) ?_
        refine g_ist d_L_carriesOut_96 hh il_1_10.1 il_1_10.2 ?_
        refine g_iload_n d_L_carriesOut_97 rfl ?_
        refine g_iconst d_L_carriesOut_98 ?_
        refine s_icmp_ne d_L_carriesOut_99 (fun u30 => ?_) (fun u30 => ?_)
        · refine g_iload_n d_L_carriesOut_121 rfl ?_
          refine g_iconst d_L_carriesOut_122 ?_
          refine s_icmp_ne d_L_carriesOut_123 (fun u31 => ?_) (fun u31 => ?_)
          · refine g_iload_n d_L_carriesOut_145 rfl ?_
            refine g_bipush d_L_carriesOut_146 ?_
            refine s_icmp_eq d_L_carriesOut_148 (fun u32 => ?_) (fun u32 => ?_)
            · refine g_iconst d_L_carriesOut_156 ?_
              refine g_zreturn d_L_carriesOut_157 rfl ?_ rfl
              rfl
            · refine g_aload_n d_L_carriesOut_151 rfl ?_
              refine g_iload_n d_L_carriesOut_152 rfl ?_
              refine g_callV1V d_L_carriesOut_153 ml_L_65 vk_L_drive hc ⟨_, rfl, rfl⟩ rfl (Nat.le_of_ble_eq_true rfl) (w_L_drive (X := X) (d := d) hc hg hh _ _) (fun q33 => ?_)
              refine g_iconst d_L_carriesOut_156 ?_
              refine g_zreturn d_L_carriesOut_157 rfl ?_ rfl
              rfl
          · refine g_aload_n d_L_carriesOut_126 rfl ?_
            refine g_getR d_L_carriesOut_127 fl_L_9 hc rfl ?_
            refine g_iconst d_L_carriesOut_130 ?_
            refine g_bipush d_L_carriesOut_131 ?_
            refine g_aload_n d_L_carriesOut_133 rfl ?_
            refine g_getR d_L_carriesOut_134 fl_L_9 hc rfl ?_
            refine g_iconst d_L_carriesOut_137 ?_
            refine g_ild d_L_carriesOut_138 hh il_3_10.1 il_3_10.2 ?_
            refine g_iconst d_L_carriesOut_139 ?_
            refine g_iadd d_L_carriesOut_140 ?_
            refine g_mmin d_L_carriesOut_141 ml_L_62 (Nat.le_of_ble_eq_true rfl) ?_
            refine g_ist d_L_carriesOut_144 hh il_3_10.1 il_3_10.2 ?_
            refine g_iload_n d_L_carriesOut_145 rfl ?_
            refine g_bipush d_L_carriesOut_146 ?_
            refine s_icmp_eq d_L_carriesOut_148 (fun u36 => ?_) (fun u36 => ?_)
            · refine g_iconst d_L_carriesOut_156 ?_
              refine g_zreturn d_L_carriesOut_157 rfl ?_ rfl
              rfl
            · refine g_aload_n d_L_carriesOut_151 rfl ?_
              refine g_iload_n d_L_carriesOut_152 rfl ?_
              refine g_callV1V d_L_carriesOut_153 ml_L_65 vk_L_drive hc ⟨_, rfl, rfl⟩ rfl (Nat.le_of_ble_eq_true rfl) (w_L_drive (X := X) (d := d) hc hg hh _ _) (fun q37 => ?_)
              refine g_iconst d_L_carriesOut_156 ?_
              refine g_zreturn d_L_carriesOut_157 rfl ?_ rfl
              rfl
        · refine g_aload_n d_L_carriesOut_102 rfl ?_
          refine g_getR d_L_carriesOut_103 fl_L_9 hc rfl ?_
          refine g_iconst d_L_carriesOut_106 ?_
          refine g_iconst d_L_carriesOut_107 ?_
          refine g_aload_n d_L_carriesOut_108 rfl ?_
          refine g_getR d_L_carriesOut_109 fl_L_9 hc rfl ?_
          refine g_iconst d_L_carriesOut_112 ?_
          refine g_ild d_L_carriesOut_113 hh il_2_10.1 il_2_10.2 ?_
          refine g_bipush d_L_carriesOut_114 ?_
          refine g_isub d_L_carriesOut_116 ?_
          refine g_mmax d_L_carriesOut_117 ml_L_57 (Nat.le_of_ble_eq_true rfl) ?_
          refine g_ist d_L_carriesOut_120 hh il_2_10.1 il_2_10.2 ?_
          refine g_iload_n d_L_carriesOut_121 rfl ?_
          refine g_iconst d_L_carriesOut_122 ?_
          refine s_icmp_ne d_L_carriesOut_123 (fun u40 => ?_) (fun u40 => ?_)
          · refine g_iload_n d_L_carriesOut_145 rfl ?_
            refine g_bipush d_L_carriesOut_146 ?_
            refine s_icmp_eq d_L_carriesOut_148 (fun u41 => ?_) (fun u41 => ?_)
            · refine g_iconst d_L_carriesOut_156 ?_
              refine g_zreturn d_L_carriesOut_157 rfl ?_ rfl
              rfl
            · refine g_aload_n d_L_carriesOut_151 rfl ?_
              refine g_iload_n d_L_carriesOut_152 rfl ?_
              refine g_callV1V d_L_carriesOut_153 ml_L_65 vk_L_drive hc ⟨_, rfl, rfl⟩ rfl (Nat.le_of_ble_eq_true rfl) (w_L_drive (X := X) (d := d) hc hg hh _ _) (fun q42 => ?_)
              refine g_iconst d_L_carriesOut_156 ?_
              refine g_zreturn d_L_carriesOut_157 rfl ?_ rfl
              rfl
          · refine g_aload_n d_L_carriesOut_126 rfl ?_
            refine g_getR d_L_carriesOut_127 fl_L_9 hc rfl ?_
            refine g_iconst d_L_carriesOut_130 ?_
            refine g_bipush d_L_carriesOut_131 ?_
            refine g_aload_n d_L_carriesOut_133 rfl ?_
            refine g_getR d_L_carriesOut_134 fl_L_9 hc rfl ?_
            refine g_iconst d_L_carriesOut_137 ?_
            refine g_ild d_L_carriesOut_138 hh il_3_10.1 il_3_10.2 ?_
            refine g_iconst d_L_carriesOut_139 ?_
            refine g_iadd d_L_carriesOut_140 ?_
            refine g_mmin d_L_carriesOut_141 ml_L_62 (Nat.le_of_ble_eq_true rfl) ?_
            refine g_ist d_L_carriesOut_144 hh il_3_10.1 il_3_10.2 ?_
            refine g_iload_n d_L_carriesOut_145 rfl ?_
            refine g_bipush d_L_carriesOut_146 ?_
            refine s_icmp_eq d_L_carriesOut_148 (fun u45 => ?_) (fun u45 => ?_)
            · refine g_iconst d_L_carriesOut_156 ?_
              refine g_zreturn d_L_carriesOut_157 rfl ?_ rfl
              rfl
            · refine g_aload_n d_L_carriesOut_151 rfl ?_
              refine g_iload_n d_L_carriesOut_152 rfl ?_
              refine g_callV1V d_L_carriesOut_153 ml_L_65 vk_L_drive hc ⟨_, rfl, rfl⟩ rfl (Nat.le_of_ble_eq_true rfl) (w_L_drive (X := X) (d := d) hc hg hh _ _) (fun q46 => ?_)
              refine g_iconst d_L_carriesOut_156 ?_
              refine g_zreturn d_L_carriesOut_157 rfl ?_ rfl
              rfl
    · refine g_iconst d_L_carriesOut_24 ?_
      refine g_zreturn d_L_carriesOut_25 rfl ?_ rfl
      rfl
