def f_M_in (p1 p2 p3 : Int32) (S : St) : Option (Bool × St) := let x3 : Int32 := (if p1 < p2 then 0 else (if p3 < p1 then 0 else 1)); some ((if p1 < p2 then false else (if p3 < p1 then false else true)), S)
set_option maxRecDepth 4000 in
theorem w_M_in {X : xC} {d : Nat}  (p1 p2 p3 : Int32) (S : St) : SemG eB X k_M_in (d) 0 [some (.int p1), some (.int p2), some (.int p3)] [] S (f_M_in  p1 p2 p3 S) := by
  unfold f_M_in
  refine g_iload_n d_M_in_0 rfl ?_
  refine g_iload_n d_M_in_1 rfl ?_
  refine m_icmp_lt d_M_in_2 (fun hJ2 => g_iconst d_M_in_14 hJ2) (fun hJ2 => g_iload_n d_M_in_5 rfl (g_iload_n d_M_in_6 rfl (m_icmp_gt d_M_in_7 (fun hJ1 => g_iconst d_M_in_14 hJ1) (fun hJ1 => g_iconst d_M_in_10 (g_goto d_M_in_11 hJ1)) hJ2))) ?_
  refine g_zreturn d_M_in_15 rfl ?_ rfl
  (repeat' split) <;> rfl
def f_M_isYard (p1 : Int32) (S : St) : Option (Bool × St) := ((f_M_in p1 0 39 S).bind fun q1 => some (q1.1, q1.2))
set_option maxRecDepth 4000 in
theorem w_M_isYard {X : xC} {d : Nat}  (p1 : Int32) (S : St) : SemG eB X k_M_isYard (d + 1) 0 [some (.int p1)] [] S (f_M_isYard  p1 S) := by
  unfold f_M_isYard
  refine g_iload_n d_M_isYard_0 rfl ?_
  refine g_iconst d_M_isYard_1 ?_
  refine g_bipush d_M_isYard_2 ?_
  refine g_callS3B d_M_isYard_4 ml_M_45 sk_M_in rfl rfl rfl (Nat.le_of_ble_eq_true rfl) (w_M_in (X := X) (d := d) _ _ _ _) (fun q1 => ?_)
  refine g_zreturn d_M_isYard_7 rfl ?_ rfl
  rfl
def f_M_finding (p1 : Int32) (S : St) : Option (Int32 × St) := (if inb p1 7 = true then let S2 := put S 50 (p1).toNatClampNeg ((S 50 (p1).toNatClampNeg) + 1); some (((-1000001) - p1), S2) else none)
set_option maxRecDepth 4000 in
theorem w_M_finding {X : xC} {d : Nat}  (p1 : Int32) (S : St) : SemG eI X k_M_finding (d) 0 [some (.ref (xB X + 46)), some (.int p1)] [] S (f_M_finding  p1 S) := by
  unfold f_M_finding
  refine g_aload_n d_M_finding_0 rfl ?_
  refine g_getR d_M_finding_1 fl_M_19 rfl rfl ?_
  refine g_iload_n d_M_finding_4 rfl ?_
  refine g_dup2 d_M_finding_5 rfl rfl ?_
  refine g_guard (fun hb1 => ?_)
  refine g_ild d_M_finding_6 rfl hb1 rfl ?_
  refine g_iconst d_M_finding_7 ?_
  refine g_iadd d_M_finding_8 ?_
  refine g_ist d_M_finding_9 rfl hb1 rfl ?_
  refine g_ldc d_M_finding_10 cn_M_40 ?_
  refine g_iload_n d_M_finding_12 rfl ?_
  refine g_isub d_M_finding_13 ?_
  exact g_ireturn d_M_finding_14 rfl rfl rfl
def f_M_sand (p1 p2 : Int32) (S : St) : Option (Int32 × St) := ((f_M_isYard p1 S).bind fun q1 => (if (bI q1.1) = 0 then ((f_M_finding 0 q1.2).bind fun q3 => some (q3.1, q3.2)) else ((f_M_in p2 0 99 q1.2).bind fun q4 => (if (bI q4.1) = 0 then ((f_M_finding 0 q4.2).bind fun q9 => some (q9.1, q9.2)) else (if inb (12 + p1) 92 = true then let x7 : Int32 := (q4.2 47 ((12 + p1)).toNatClampNeg); let S8 := put q4.2 47 ((12 + p1)).toNatClampNeg p2; some (x7, S8) else none)))))
set_option maxRecDepth 4000 in
theorem w_M_sand {X : xC} {d : Nat}  (p1 p2 : Int32) (S : St) : SemG eI X k_M_sand (d + 2) 0 [some (.ref (xB X + 46)), some (.int p1), some (.int p2), none] [] S (f_M_sand  p1 p2 S) := by
  unfold f_M_sand
  refine g_iload_n d_M_sand_0 rfl ?_
  refine g_callS1B d_M_sand_1 ml_M_49 sk_M_isYard rfl (Nat.le_of_ble_eq_true rfl) (w_M_isYard (X := X) (d := d) _ _) (fun q1 => ?_)
  refine s_if_eq d_M_sand_4 (fun u2 => ?_) (fun u2 => ?_)
  · refine g_aload_n d_M_sand_17 rfl ?_
    refine g_iconst d_M_sand_18 ?_
    refine g_callV1I d_M_sand_19 ml_M_61 vk_M_finding rfl ⟨_, rfl, rfl⟩ rfl (Nat.le_of_ble_eq_true rfl) (w_M_finding (X := X) (d := d + 1) _ _) (fun q3 => ?_)
    exact g_ireturn d_M_sand_22 rfl rfl rfl
  · refine g_iload_n d_M_sand_7 rfl ?_
    refine g_iconst d_M_sand_8 ?_
    refine g_bipush d_M_sand_9 ?_
    refine g_callS3B d_M_sand_11 ml_M_45 sk_M_in rfl rfl rfl (Nat.le_of_ble_eq_true rfl) (w_M_in (X := X) (d := d + 1) _ _ _ _) (fun q4 => ?_)
    refine s_if_ne d_M_sand_14 (fun u5 => ?_) (fun u5 => ?_)
    · refine g_aload_n d_M_sand_23 rfl ?_
      refine g_getR d_M_sand_24 fl_M_7 rfl rfl ?_
      refine g_bipush d_M_sand_27 ?_
      refine g_iload_n d_M_sand_29 rfl ?_
      refine g_iadd d_M_sand_30 ?_
      refine g_guard (fun hb6 => ?_)
      refine g_ild d_M_sand_31 rfl hb6 rfl ?_
      refine g_istore_n d_M_sand_32 (by decide) ?_
      refine g_aload_n d_M_sand_33 rfl ?_
      refine g_getR d_M_sand_34 fl_M_7 rfl rfl ?_
      refine g_bipush d_M_sand_37 ?_
      refine g_iload_n d_M_sand_39 rfl ?_
      refine g_iadd d_M_sand_40 ?_
      refine g_iload_n d_M_sand_41 rfl ?_
      refine g_ist d_M_sand_42 rfl hb6 rfl ?_
      refine g_iload_n d_M_sand_43 rfl ?_
      exact g_ireturn d_M_sand_44 rfl rfl rfl
    · refine g_aload_n d_M_sand_17 rfl ?_
      refine g_iconst d_M_sand_18 ?_
      refine g_callV1I d_M_sand_19 ml_M_61 vk_M_finding rfl ⟨_, rfl, rfl⟩ rfl (Nat.le_of_ble_eq_true rfl) (w_M_finding (X := X) (d := d + 1) _ _) (fun q9 => ?_)
      exact g_ireturn d_M_sand_22 rfl rfl rfl
def f_M_hour (S : St) : Option (Int32 × St) := some (((14 + ((S 47 7) / 60)) - (14 + ((S 47 7) / 60)) / 24 * 24), S)
set_option maxRecDepth 4000 in
theorem w_M_hour {X : xC} {d : Nat}  (S : St) : SemG eI X k_M_hour (d) 0 [some (.ref (xB X + 46))] [] S (f_M_hour   S) := by
  unfold f_M_hour
  refine g_bipush d_M_hour_0 ?_
  refine g_aload_n d_M_hour_2 rfl ?_
  refine g_getR d_M_hour_3 fl_M_7 rfl rfl ?_
  refine g_bipush d_M_hour_6 ?_
  refine g_ild d_M_hour_8 rfl il_7_92.1 il_7_92.2 ?_
  refine g_bipush d_M_hour_9 ?_
  refine g_idiv d_M_hour_11 (by decide) ?_
  refine g_iadd d_M_hour_12 ?_
  refine g_bipush d_M_hour_13 ?_
  refine g_irem d_M_hour_15 (by decide) ?_
  exact g_ireturn d_M_hour_16 rfl rfl rfl
def f_M_gripOf (p1 p2 : Int32) (S : St) : Option (Int32 × St) := ((f_M_hour S).bind fun q1 => ((f_M_in q1.1 4 7 q1.2).bind fun q2 => let x4 : Int32 := (if (bI q2.1) = 0 then 0 else 20); some (((p1 + (3 * p2)) + x4), q2.2)))
set_option maxRecDepth 4000 in
theorem w_M_gripOf {X : xC} {d : Nat}  (p1 p2 : Int32) (S : St) : SemG eI X k_M_gripOf (d + 1) 0 [some (.ref (xB X + 46)), some (.int p1), some (.int p2)] [] S (f_M_gripOf  p1 p2 S) := by
  unfold f_M_gripOf
  refine g_iload_n d_M_gripOf_0 rfl ?_
  refine g_iconst d_M_gripOf_1 ?_
  refine g_iload_n d_M_gripOf_2 rfl ?_
  refine g_imul d_M_gripOf_3 ?_
  refine g_iadd d_M_gripOf_4 ?_
  refine g_aload_n d_M_gripOf_5 rfl ?_
  refine g_callV0I d_M_gripOf_6 ml_M_53 vk_M_hour rfl ⟨_, rfl, rfl⟩ (Nat.le_of_ble_eq_true rfl) (w_M_hour (X := X) (d := d) _) (fun q1 => ?_)
  refine g_iconst d_M_gripOf_9 ?_
  refine g_bipush d_M_gripOf_10 ?_
  refine g_callS3B d_M_gripOf_12 ml_M_45 sk_M_in rfl rfl rfl (Nat.le_of_ble_eq_true rfl) (w_M_in (X := X) (d := d) _ _ _ _) (fun q2 => ?_)
  refine m_if_eq d_M_gripOf_15 (fun hJ3 => g_iconst d_M_gripOf_23 hJ3) (fun hJ3 => g_bipush d_M_gripOf_18 (g_goto d_M_gripOf_20 hJ3)) ?_
  refine g_iadd d_M_gripOf_24 ?_
  exact g_ireturn d_M_gripOf_25 rfl rfl rfl
def f_M_grip (p1 : Int32) (S : St) : Option (Int32 × St) := (if inb (12 + p1) 92 = true then ((f_M_gripOf (S 47 ((12 + p1)).toNatClampNeg) (S 47 3) S).bind fun q2 => some (q2.1, q2.2)) else none)
set_option maxRecDepth 4000 in
theorem w_M_grip {X : xC} {d : Nat}  (p1 : Int32) (S : St) : SemG eI X k_M_grip (d + 2) 0 [some (.ref (xB X + 46)), some (.int p1)] [] S (f_M_grip  p1 S) := by
  unfold f_M_grip
  refine g_aload_n d_M_grip_0 rfl ?_
  refine g_aload_n d_M_grip_1 rfl ?_
  refine g_getR d_M_grip_2 fl_M_7 rfl rfl ?_
  refine g_bipush d_M_grip_5 ?_
  refine g_iload_n d_M_grip_7 rfl ?_
  refine g_iadd d_M_grip_8 ?_
  refine g_guard (fun hb1 => ?_)
  refine g_ild d_M_grip_9 rfl hb1 rfl ?_
  refine g_aload_n d_M_grip_10 rfl ?_
  refine g_getR d_M_grip_11 fl_M_7 rfl rfl ?_
  refine g_iconst d_M_grip_14 ?_
  refine g_ild d_M_grip_15 rfl il_3_92.1 il_3_92.2 ?_
  refine g_callV2I d_M_grip_16 ml_M_57 vk_M_gripOf rfl ⟨_, rfl, rfl⟩ rfl rfl (Nat.le_of_ble_eq_true rfl) (w_M_gripOf (X := X) (d := d) _ _ _) (fun q2 => ?_)
  exact g_ireturn d_M_grip_19 rfl rfl rfl
def f_M_yardOf (p1 p2 : Int32) (S : St) : Option (Int32 × St) := ((f_M_isYard p1 S).bind fun q1 => (if (bI q1.1) = 0 then ((f_M_finding 0 q1.2).bind fun q3 => some (q3.1, q3.2)) else ((f_M_in p2 0 1 q1.2).bind fun q4 => (if (bI q4.1) = 0 then ((f_M_finding 0 q4.2).bind fun q9 => some (q9.1, q9.2)) else (if p2 = 0 then (if inb (12 + p1) 92 = true then some ((q4.2 47 ((12 + p1)).toNatClampNeg), q4.2) else none) else ((f_M_grip p1 q4.2).bind fun q7 => some (q7.1, q7.2)))))))
set_option maxRecDepth 4000 in
theorem w_M_yardOf {X : xC} {d : Nat}  (p1 p2 : Int32) (S : St) : SemG eI X k_M_yardOf (d + 3) 0 [some (.ref (xB X + 46)), some (.int p1), some (.int p2)] [] S (f_M_yardOf  p1 p2 S) := by
  unfold f_M_yardOf
  refine g_iload_n d_M_yardOf_0 rfl ?_
  refine g_callS1B d_M_yardOf_1 ml_M_49 sk_M_isYard rfl (Nat.le_of_ble_eq_true rfl) (w_M_isYard (X := X) (d := d + 1) _ _) (fun q1 => ?_)
  refine s_if_eq d_M_yardOf_4 (fun u2 => ?_) (fun u2 => ?_)
  · refine g_aload_n d_M_yardOf_16 rfl ?_
    refine g_iconst d_M_yardOf_17 ?_
    refine g_callV1I d_M_yardOf_18 ml_M_61 vk_M_finding rfl ⟨_, rfl, rfl⟩ rfl (Nat.le_of_ble_eq_true rfl) (w_M_finding (X := X) (d := d + 2) _ _) (fun q3 => ?_)
    exact g_ireturn d_M_yardOf_21 rfl rfl rfl
  · refine g_iload_n d_M_yardOf_7 rfl ?_
    refine g_iconst d_M_yardOf_8 ?_
    refine g_iconst d_M_yardOf_9 ?_
    refine g_callS3B d_M_yardOf_10 ml_M_45 sk_M_in rfl rfl rfl (Nat.le_of_ble_eq_true rfl) (w_M_in (X := X) (d := d + 2) _ _ _ _) (fun q4 => ?_)
    refine s_if_ne d_M_yardOf_13 (fun u5 => ?_) (fun u5 => ?_)
    · refine g_iload_n d_M_yardOf_22 rfl ?_
      refine s_if_ne d_M_yardOf_23 (fun u6 => ?_) (fun u6 => ?_)
      · refine g_aload_n d_M_yardOf_38 rfl ?_
        refine g_iload_n d_M_yardOf_39 rfl ?_
        refine g_callV1I d_M_yardOf_40 ml_M_65 vk_M_grip rfl ⟨_, rfl, rfl⟩ rfl (Nat.le_of_ble_eq_true rfl) (w_M_grip (X := X) (d := d) _ _) (fun q7 => ?_)
        exact g_ireturn d_M_yardOf_43 rfl rfl rfl
      · refine g_aload_n d_M_yardOf_26 rfl ?_
        refine g_getR d_M_yardOf_27 fl_M_7 rfl rfl ?_
        refine g_bipush d_M_yardOf_30 ?_
        refine g_iload_n d_M_yardOf_32 rfl ?_
        refine g_iadd d_M_yardOf_33 ?_
        refine g_guard (fun hb8 => ?_)
        refine g_ild d_M_yardOf_34 rfl hb8 rfl ?_
        refine g_goto d_M_yardOf_35 ?_
        exact g_ireturn d_M_yardOf_43 rfl rfl rfl
    · refine g_aload_n d_M_yardOf_16 rfl ?_
      refine g_iconst d_M_yardOf_17 ?_
      refine g_callV1I d_M_yardOf_18 ml_M_61 vk_M_finding rfl ⟨_, rfl, rfl⟩ rfl (Nat.le_of_ble_eq_true rfl) (w_M_finding (X := X) (d := d + 2) _ _) (fun q9 => ?_)
      exact g_ireturn d_M_yardOf_21 rfl rfl rfl
def f_M_mostOf (p1 : Int32) (S : St) : Option (Int32 × St) := let x6 : Int32 := (if p1 = 0 then 39 else (if p1 = 3 then 9 else (if p1 = 4 then 8 else (if p1 = 5 then 8 else (if p1 = 6 then 9999 else 99))))); some (x6, S)
set_option maxRecDepth 4000 in
theorem w_M_mostOf {X : xC} {d : Nat}  (p1 : Int32) (S : St) : SemG eI X k_M_mostOf (d) 0 [some (.int p1)] [] S (f_M_mostOf  p1 S) := by
  unfold f_M_mostOf
  refine g_iload_n d_M_mostOf_0 rfl ?_
  refine m_if_ne d_M_mostOf_1 (fun hJ5 => g_iload_n d_M_mostOf_9 rfl (g_iconst d_M_mostOf_10 (m_icmp_ne d_M_mostOf_11 (fun hJ4 => g_iload_n d_M_mostOf_19 rfl (g_iconst d_M_mostOf_20 (m_icmp_eq d_M_mostOf_21 (fun hJ3 => g_bipush d_M_mostOf_29 (g_goto d_M_mostOf_31 hJ3)) (fun hJ3 => g_iload_n d_M_mostOf_24 rfl (g_iconst d_M_mostOf_25 (m_icmp_ne d_M_mostOf_26 (fun hJ2 => g_iload_n d_M_mostOf_34 rfl (g_bipush d_M_mostOf_35 (m_icmp_ne d_M_mostOf_37 (fun hJ1 => g_bipush d_M_mostOf_46 hJ1) (fun hJ1 => g_sipush d_M_mostOf_40 (g_goto d_M_mostOf_43 hJ1)) hJ2))) (fun hJ2 => g_bipush d_M_mostOf_29 (g_goto d_M_mostOf_31 hJ2)) hJ3))) hJ4))) (fun hJ4 => g_bipush d_M_mostOf_14 (g_goto d_M_mostOf_16 hJ4)) hJ5))) (fun hJ5 => g_bipush d_M_mostOf_4 (g_goto d_M_mostOf_6 hJ5)) ?_
  exact g_ireturn d_M_mostOf_48 rfl rfl rfl
def f_M_isSet (p1 p2 : Int32) (S : St) : Option (Bool × St) := let x2 : Int32 := (if p1 = 5 then 1 else 0); ((f_M_mostOf p1 S).bind fun q3 => ((f_M_in p2 x2 q3.1 q3.2).bind fun q4 => some (q4.1, q4.2)))
set_option maxRecDepth 4000 in
theorem w_M_isSet {X : xC} {d : Nat}  (p1 p2 : Int32) (S : St) : SemG eB X k_M_isSet (d + 1) 0 [some (.int p1), some (.int p2)] [] S (f_M_isSet  p1 p2 S) := by
  unfold f_M_isSet
  refine g_iload_n d_M_isSet_0 rfl ?_
  refine g_iload_n d_M_isSet_1 rfl ?_
  refine g_iconst d_M_isSet_2 ?_
  refine m_icmp_ne d_M_isSet_3 (fun hJ1 => g_iconst d_M_isSet_10 hJ1) (fun hJ1 => g_iconst d_M_isSet_6 (g_goto d_M_isSet_7 hJ1)) ?_
  refine g_iload_n d_M_isSet_11 rfl ?_
  refine g_callS1I d_M_isSet_12 ml_M_68 sk_M_mostOf rfl (Nat.le_of_ble_eq_true rfl) (w_M_mostOf (X := X) (d := d) _ _) (fun q3 => ?_)
  refine g_callS3B d_M_isSet_15 ml_M_45 sk_M_in rfl rfl rfl (Nat.le_of_ble_eq_true rfl) (w_M_in (X := X) (d := d) _ _ _ _) (fun q4 => ?_)
  refine g_zreturn d_M_isSet_18 rfl ?_ rfl
  rfl
def f_M_set (p1 p2 : Int32) (S : St) : Option (Int32 × St) := ((f_M_in p1 0 6 S).bind fun q1 => (if (bI q1.1) = 0 then ((f_M_finding 0 q1.2).bind fun q3 => some (q3.1, q3.2)) else ((f_M_isSet p1 p2 q1.2).bind fun q4 => (if (bI q4.1) = 0 then ((f_M_finding 0 q4.2).bind fun q9 => some (q9.1, q9.2)) else (if inb p1 92 = true then let x7 : Int32 := (q4.2 47 (p1).toNatClampNeg); let S8 := put q4.2 47 (p1).toNatClampNeg p2; some (x7, S8) else none)))))
set_option maxRecDepth 4000 in
theorem w_M_set {X : xC} {d : Nat}  (p1 p2 : Int32) (S : St) : SemG eI X k_M_set (d + 2) 0 [some (.ref (xB X + 46)), some (.int p1), some (.int p2), none] [] S (f_M_set  p1 p2 S) := by
  unfold f_M_set
  refine g_iload_n d_M_set_0 rfl ?_
  refine g_iconst d_M_set_1 ?_
  refine g_bipush d_M_set_2 ?_
  refine g_callS3B d_M_set_4 ml_M_45 sk_M_in rfl rfl rfl (Nat.le_of_ble_eq_true rfl) (w_M_in (X := X) (d := d + 1) _ _ _ _) (fun q1 => ?_)
  refine s_if_eq d_M_set_7 (fun u2 => ?_) (fun u2 => ?_)
  · refine g_aload_n d_M_set_18 rfl ?_
    refine g_iconst d_M_set_19 ?_
    refine g_callV1I d_M_set_20 ml_M_61 vk_M_finding rfl ⟨_, rfl, rfl⟩ rfl (Nat.le_of_ble_eq_true rfl) (w_M_finding (X := X) (d := d + 1) _ _) (fun q3 => ?_)
    exact g_ireturn d_M_set_23 rfl rfl rfl
  · refine g_iload_n d_M_set_10 rfl ?_
    refine g_iload_n d_M_set_11 rfl ?_
    refine g_callS2B d_M_set_12 ml_M_71 sk_M_isSet rfl rfl (Nat.le_of_ble_eq_true rfl) (w_M_isSet (X := X) (d := d) _ _ _) (fun q4 => ?_)
    refine s_if_ne d_M_set_15 (fun u5 => ?_) (fun u5 => ?_)
    · refine g_aload_n d_M_set_24 rfl ?_
      refine g_getR d_M_set_25 fl_M_7 rfl rfl ?_
      refine g_iload_n d_M_set_28 rfl ?_
      refine g_guard (fun hb6 => ?_)
      refine g_ild d_M_set_29 rfl hb6 rfl ?_
      refine g_istore_n d_M_set_30 (by decide) ?_
      refine g_aload_n d_M_set_31 rfl ?_
      refine g_getR d_M_set_32 fl_M_7 rfl rfl ?_
      refine g_iload_n d_M_set_35 rfl ?_
      refine g_iload_n d_M_set_36 rfl ?_
      refine g_ist d_M_set_37 rfl hb6 rfl ?_
      refine g_iload_n d_M_set_38 rfl ?_
      exact g_ireturn d_M_set_39 rfl rfl rfl
    · refine g_aload_n d_M_set_18 rfl ?_
      refine g_iconst d_M_set_19 ?_
      refine g_callV1I d_M_set_20 ml_M_61 vk_M_finding rfl ⟨_, rfl, rfl⟩ rfl (Nat.le_of_ble_eq_true rfl) (w_M_finding (X := X) (d := d + 1) _ _) (fun q9 => ?_)
      exact g_ireturn d_M_set_23 rfl rfl rfl
def f_M_heat (S : St) : Option (Int32 × St) := ((f_M_hour S).bind fun q1 => ((f_M_in q1.1 10 16 q1.2).bind fun q2 => let x6 : Int32 := (if (bI q2.1) = 0 then (if 20 ≤ q1.1 then 1 else (if 5 < q1.1 then 2 else 1)) else 3); some (x6, q2.2)))
set_option maxRecDepth 4000 in
theorem w_M_heat {X : xC} {d : Nat}  (S : St) : SemG eI X k_M_heat (d + 1) 0 [some (.ref (xB X + 46)), none] [] S (f_M_heat   S) := by
  unfold f_M_heat
  refine g_aload_n d_M_heat_0 rfl ?_
  refine g_callV0I d_M_heat_1 ml_M_53 vk_M_hour rfl ⟨_, rfl, rfl⟩ (Nat.le_of_ble_eq_true rfl) (w_M_hour (X := X) (d := d) _) (fun q1 => ?_)
  refine g_istore_n d_M_heat_4 (by decide) ?_
  refine g_iload_n d_M_heat_5 rfl ?_
  refine g_bipush d_M_heat_6 ?_
  refine g_bipush d_M_heat_8 ?_
  refine g_callS3B d_M_heat_10 ml_M_45 sk_M_in rfl rfl rfl (Nat.le_of_ble_eq_true rfl) (w_M_in (X := X) (d := d) _ _ _ _) (fun q2 => ?_)
  refine m_if_eq d_M_heat_13 (fun hJ5 => g_iload_n d_M_heat_20 rfl (g_bipush d_M_heat_21 (m_icmp_ge d_M_heat_23 (fun hJ4 => g_iconst d_M_heat_31 (g_goto d_M_heat_32 hJ4)) (fun hJ4 => g_iload_n d_M_heat_26 rfl (g_iconst d_M_heat_27 (m_icmp_gt d_M_heat_28 (fun hJ3 => g_iconst d_M_heat_35 hJ3) (fun hJ3 => g_iconst d_M_heat_31 (g_goto d_M_heat_32 hJ3)) hJ4))) hJ5))) (fun hJ5 => g_iconst d_M_heat_16 (g_goto d_M_heat_17 hJ5)) ?_
  exact g_ireturn d_M_heat_36 rfl rfl rfl
def f_M_weight (S : St) : Option (Int32 × St) := some (((20 + ((S 47 2) / 2)) + (S 47 1)), S)
set_option maxRecDepth 4000 in
theorem w_M_weight {X : xC} {d : Nat}  (S : St) : SemG eI X k_M_weight (d) 0 [some (.ref (xB X + 46))] [] S (f_M_weight   S) := by
  unfold f_M_weight
  refine g_bipush d_M_weight_0 ?_
  refine g_aload_n d_M_weight_2 rfl ?_
  refine g_getR d_M_weight_3 fl_M_7 rfl rfl ?_
  refine g_iconst d_M_weight_6 ?_
  refine g_ild d_M_weight_7 rfl il_2_92.1 il_2_92.2 ?_
  refine g_iconst d_M_weight_8 ?_
  refine g_idiv d_M_weight_9 (by decide) ?_
  refine g_iadd d_M_weight_10 ?_
  refine g_aload_n d_M_weight_11 rfl ?_
  refine g_getR d_M_weight_12 fl_M_7 rfl rfl ?_
  refine g_iconst d_M_weight_15 ?_
  refine g_ild d_M_weight_16 rfl il_1_92.1 il_1_92.2 ?_
  refine g_iadd d_M_weight_17 ?_
  exact g_ireturn d_M_weight_18 rfl rfl rfl
def f_M_isOut (S : St) : Option (Bool × St) := ((f_M_isYard (S 47 0) S).bind fun q1 => let x3 : Int32 := (if (bI q1.1) = 0 then 1 else 0); some ((if (bI q1.1) = 0 then true else false), q1.2))
set_option maxRecDepth 4000 in
theorem w_M_isOut {X : xC} {d : Nat}  (S : St) : SemG eB X k_M_isOut (d + 2) 0 [some (.ref (xB X + 46))] [] S (f_M_isOut   S) := by
  unfold f_M_isOut
  refine g_aload_n d_M_isOut_0 rfl ?_
  refine g_getR d_M_isOut_1 fl_M_7 rfl rfl ?_
  refine g_iconst d_M_isOut_4 ?_
  refine g_ild d_M_isOut_5 rfl il_0_92.1 il_0_92.2 ?_
  refine g_callS1B d_M_isOut_6 ml_M_49 sk_M_isYard rfl (Nat.le_of_ble_eq_true rfl) (w_M_isYard (X := X) (d := d) _ _) (fun q1 => ?_)
  refine m_if_ne d_M_isOut_9 (fun hJ2 => g_iconst d_M_isOut_16 hJ2) (fun hJ2 => g_iconst d_M_isOut_12 (g_goto d_M_isOut_13 hJ2)) ?_
  refine g_zreturn d_M_isOut_17 rfl ?_ rfl
  (repeat' split) <;> rfl
def f_M_now (p1 : Int32) (S : St) : Option (Int32 × St) := (if p1 = 8 then ((f_M_hour S).bind fun q2 => some (q2.1, q2.2)) else (if p1 = 9 then ((f_M_heat S).bind fun q4 => some (q4.1, q4.2)) else (if p1 = 10 then ((f_M_weight S).bind fun q6 => some (q6.1, q6.2)) else (if p1 = 11 then ((f_M_isOut S).bind fun q8 => let x10 : Int32 := (if (bI q8.1) = 0 then 0 else 1); some (x10, q8.2)) else (if p1 = 12 then some ((S 47 8), S) else (if p1 = 13 then some ((S 47 9), S) else ((f_M_in p1 0 7 S).bind fun q13 => (if (bI q13.1) = 0 then ((f_M_finding 0 q13.2).bind fun q15 => some (q15.1, q15.2)) else (if inb p1 92 = true then some ((q13.2 47 (p1).toNatClampNeg), q13.2) else none)))))))))
set_option maxRecDepth 4000 in
theorem w_M_now {X : xC} {d : Nat}  (p1 : Int32) (S : St) : SemG eI X k_M_now (d + 3) 0 [some (.ref (xB X + 46)), some (.int p1)] [] S (f_M_now  p1 S) := by
  unfold f_M_now
  refine g_iload_n d_M_now_0 rfl ?_
  refine g_ite (fun u1 => ?_) (fun u1 => ?_)
  · refine g_tcase (off := 39) (tgt := 40) d_M_now_1 u1 (by decide) ?_
    refine g_aload_n d_M_now_40 rfl ?_
    refine g_callV0I d_M_now_41 ml_M_53 vk_M_hour rfl ⟨_, rfl, rfl⟩ (Nat.le_of_ble_eq_true rfl) (w_M_hour (X := X) (d := d + 2) _) (fun q2 => ?_)
    exact g_ireturn d_M_now_44 rfl rfl rfl
  refine g_ite (fun u3 => ?_) (fun u3 => ?_)
  · refine g_tcase (off := 44) (tgt := 45) d_M_now_1 u3 (by decide) ?_
    refine g_aload_n d_M_now_45 rfl ?_
    refine g_callV0I d_M_now_46 ml_M_75 vk_M_heat rfl ⟨_, rfl, rfl⟩ (Nat.le_of_ble_eq_true rfl) (w_M_heat (X := X) (d := d + 1) _) (fun q4 => ?_)
    exact g_ireturn d_M_now_49 rfl rfl rfl
  refine g_ite (fun u5 => ?_) (fun u5 => ?_)
  · refine g_tcase (off := 49) (tgt := 50) d_M_now_1 u5 (by decide) ?_
    refine g_aload_n d_M_now_50 rfl ?_
    refine g_callV0I d_M_now_51 ml_M_78 vk_M_weight rfl ⟨_, rfl, rfl⟩ (Nat.le_of_ble_eq_true rfl) (w_M_weight (X := X) (d := d + 2) _) (fun q6 => ?_)
    exact g_ireturn d_M_now_54 rfl rfl rfl
  refine g_ite (fun u7 => ?_) (fun u7 => ?_)
  · refine g_tcase (off := 54) (tgt := 55) d_M_now_1 u7 (by decide) ?_
    refine g_aload_n d_M_now_55 rfl ?_
    refine g_callV0B d_M_now_56 ml_M_81 vk_M_isOut rfl ⟨_, rfl, rfl⟩ (Nat.le_of_ble_eq_true rfl) (w_M_isOut (X := X) (d := d) _) (fun q8 => ?_)
    refine m_if_eq d_M_now_59 (fun hJ9 => g_iconst d_M_now_66 hJ9) (fun hJ9 => g_iconst d_M_now_62 (g_goto d_M_now_63 hJ9)) ?_
    exact g_ireturn d_M_now_67 rfl rfl rfl
  refine g_ite (fun u11 => ?_) (fun u11 => ?_)
  · refine g_tcase (off := 67) (tgt := 68) d_M_now_1 u11 (by decide) ?_
    refine g_aload_n d_M_now_68 rfl ?_
    refine g_getR d_M_now_69 fl_M_7 rfl rfl ?_
    refine g_bipush d_M_now_72 ?_
    refine g_ild d_M_now_74 rfl il_8_92.1 il_8_92.2 ?_
    exact g_ireturn d_M_now_75 rfl rfl rfl
  refine g_ite (fun u12 => ?_) (fun u12 => ?_)
  · refine g_tcase (off := 75) (tgt := 76) d_M_now_1 u12 (by decide) ?_
    refine g_aload_n d_M_now_76 rfl ?_
    refine g_getR d_M_now_77 fl_M_7 rfl rfl ?_
    refine g_bipush d_M_now_80 ?_
    refine g_ild d_M_now_82 rfl il_9_92.1 il_9_92.2 ?_
    exact g_ireturn d_M_now_83 rfl rfl rfl
  have eu1 := ne32 (n := 8) u1 (by decide)
  have eu3 := ne32 (n := 9) u3 (by decide)
  have eu5 := ne32 (n := 10) u5 (by decide)
  have eu7 := ne32 (n := 11) u7 (by decide)
  have eu11 := ne32 (n := 12) u11 (by decide)
  have eu12 := ne32 (n := 13) u12 (by decide)
  refine g_tdef (tgt := 84) d_M_now_1 (by omega) (by decide) ?_
  refine g_iload_n d_M_now_84 rfl ?_
  refine g_iconst d_M_now_85 ?_
  refine g_bipush d_M_now_86 ?_
  refine g_callS3B d_M_now_88 ml_M_45 sk_M_in rfl rfl rfl (Nat.le_of_ble_eq_true rfl) (w_M_in (X := X) (d := d + 2) _ _ _ _) (fun q13 => ?_)
  refine s_if_eq d_M_now_91 (fun u14 => ?_) (fun u14 => ?_)
  · refine g_aload_n d_M_now_103 rfl ?_
    refine g_iconst d_M_now_104 ?_
    refine g_callV1I d_M_now_105 ml_M_61 vk_M_finding rfl ⟨_, rfl, rfl⟩ rfl (Nat.le_of_ble_eq_true rfl) (w_M_finding (X := X) (d := d + 2) _ _) (fun q15 => ?_)
    exact g_ireturn d_M_now_108 rfl rfl rfl
  · refine g_aload_n d_M_now_94 rfl ?_
    refine g_getR d_M_now_95 fl_M_7 rfl rfl ?_
    refine g_iload_n d_M_now_98 rfl ?_
    refine g_guard (fun hb16 => ?_)
    refine g_ild d_M_now_99 rfl hb16 rfl ?_
    refine g_goto d_M_now_100 ?_
    exact g_ireturn d_M_now_108 rfl rfl rfl
def f_M_soft_L36 : Nat → Int32 → Int32 → Int32 → Int32 → Int32 → Int32 → St → Option (Int32 × St)
  | 0, _, _, _, _, _, _, _ => none
  | n + 1, y1, y2, y3, y4, y5, y6, S => (if 40 ≤ y6 then let x8 : Int32 := (if y2 = 0 then y3 else y4); some (x8, S) else (if inb (12 + y6) 92 = true then let x11 : Int32 := (if y1 ≤ (S 47 ((12 + y6)).toNatClampNeg) then 0 else (y5 + 1)); let x13 : Int32 := (if x11 ≤ y3 then y4 else ((y6 - x11) + 1)); let x15 : Int32 := (if x11 ≤ y3 then y3 else x11); f_M_soft_L36   n y1 y2 x15 x13 x11 (y6 + 1) S else none))
set_option maxRecDepth 4000 in
theorem w_M_soft_L36 {X : xC} {d : Nat}   : ∀ (n : Nat) (y1 : Int32) (y2 : Int32) (y3 : Int32) (y4 : Int32) (y5 : Int32) (y6 : Int32) (S : St), SemG eI X k_M_soft (d + 1) 36 [some (.ref (xB X + 46)), some (.int y1), some (.int y2), some (.int y3), some (.int y4), some (.int y5), some (.int y6)] [] S (f_M_soft_L36   n y1 y2 y3 y4 y5 y6 S) := by
  intro n
  induction n with
  | zero => intro _ _ _ _ _ _ _; exact g_none
  | succ n ih =>
    intro y1 y2 y3 y4 y5 y6 S
    unfold f_M_soft_L36
    refine g_iload d_M_soft_36 rfl ?_
    refine g_bipush d_M_soft_38 ?_
    refine s_icmp_ge d_M_soft_40 (fun u6 => ?_) (fun u6 => ?_)
    · refine g_iload_n d_M_soft_106 rfl ?_
      refine m_if_ne d_M_soft_107 (fun hJ7 => g_iload d_M_soft_114 rfl hJ7) (fun hJ7 => g_iload_n d_M_soft_110 rfl (g_goto d_M_soft_111 hJ7)) ?_
      exact g_ireturn d_M_soft_116 rfl rfl rfl
    · refine g_aload_n d_M_soft_43 rfl ?_
      refine g_getR d_M_soft_44 fl_M_7 rfl rfl ?_
      refine g_bipush d_M_soft_47 ?_
      refine g_iload d_M_soft_49 rfl ?_
      refine g_iadd d_M_soft_51 ?_
      refine g_guard (fun hb9 => ?_)
      refine g_ild d_M_soft_52 rfl hb9 rfl ?_
      refine g_iload_n d_M_soft_53 rfl ?_
      refine m_icmp_ge d_M_soft_54 (fun hJ10 => g_iconst d_M_soft_64 hJ10) (fun hJ10 => g_iload d_M_soft_57 rfl (g_iconst d_M_soft_59 (g_iadd d_M_soft_60 (g_goto d_M_soft_61 hJ10)))) ?_
      refine g_istore d_M_soft_65 (by decide) ?_
      refine g_iload d_M_soft_67 rfl ?_
      refine g_iload_n d_M_soft_69 rfl ?_
      refine m_icmp_le d_M_soft_70 (fun hJ12 => g_iload d_M_soft_83 rfl hJ12) (fun hJ12 => g_iload d_M_soft_73 rfl (g_iload d_M_soft_75 rfl (g_isub d_M_soft_77 (g_iconst d_M_soft_78 (g_iadd d_M_soft_79 (g_goto d_M_soft_80 hJ12)))))) ?_
      refine g_istore d_M_soft_85 (by decide) ?_
      refine g_iload d_M_soft_87 rfl ?_
      refine g_iload_n d_M_soft_89 rfl ?_
      refine m_icmp_le d_M_soft_90 (fun hJ14 => g_iload_n d_M_soft_98 rfl hJ14) (fun hJ14 => g_iload d_M_soft_93 rfl (g_goto d_M_soft_95 hJ14)) ?_
      refine g_istore_n d_M_soft_99 (by decide) ?_
      refine g_iinc d_M_soft_100 (by decide) rfl ?_
      refine g_goto d_M_soft_103 ?_
      exact ih _ _ _ _ _ _ _
def f_M_soft (p1 p2 : Int32) (S : St) : Option (Int32 × St) := ((f_M_in p1 0 100 S).bind fun q1 => (if (bI q1.1) = 0 then ((f_M_finding 0 q1.2).bind fun q3 => some (q3.1, q3.2)) else ((f_M_in p2 0 1 q1.2).bind fun q4 => (if (bI q4.1) = 0 then ((f_M_finding 0 q4.2).bind fun q16 => some (q16.1, q16.2)) else f_M_soft_L36   200 p1 p2 0 (-1) 0 0 q4.2))))
set_option maxRecDepth 4000 in
theorem w_M_soft {X : xC} {d : Nat}  (p1 p2 : Int32) (S : St) : SemG eI X k_M_soft (d + 1) 0 [some (.ref (xB X + 46)), some (.int p1), some (.int p2), none, none, none, none] [] S (f_M_soft  p1 p2 S) := by
  unfold f_M_soft
  refine g_iload_n d_M_soft_0 rfl ?_
  refine g_iconst d_M_soft_1 ?_
  refine g_bipush d_M_soft_2 ?_
  refine g_callS3B d_M_soft_4 ml_M_45 sk_M_in rfl rfl rfl (Nat.le_of_ble_eq_true rfl) (w_M_in (X := X) (d := d) _ _ _ _) (fun q1 => ?_)
  refine s_if_eq d_M_soft_7 (fun u2 => ?_) (fun u2 => ?_)
  · refine g_aload_n d_M_soft_19 rfl ?_
    refine g_iconst d_M_soft_20 ?_
    refine g_callV1I d_M_soft_21 ml_M_61 vk_M_finding rfl ⟨_, rfl, rfl⟩ rfl (Nat.le_of_ble_eq_true rfl) (w_M_finding (X := X) (d := d) _ _) (fun q3 => ?_)
    exact g_ireturn d_M_soft_24 rfl rfl rfl
  · refine g_iload_n d_M_soft_10 rfl ?_
    refine g_iconst d_M_soft_11 ?_
    refine g_iconst d_M_soft_12 ?_
    refine g_callS3B d_M_soft_13 ml_M_45 sk_M_in rfl rfl rfl (Nat.le_of_ble_eq_true rfl) (w_M_in (X := X) (d := d) _ _ _ _) (fun q4 => ?_)
    refine s_if_ne d_M_soft_16 (fun u5 => ?_) (fun u5 => ?_)
    · refine g_iconst d_M_soft_25 ?_
      refine g_istore_n d_M_soft_26 (by decide) ?_
      refine g_iconst d_M_soft_27 ?_
      refine g_istore d_M_soft_28 (by decide) ?_
      refine g_iconst d_M_soft_30 ?_
      refine g_istore d_M_soft_31 (by decide) ?_
      refine g_iconst d_M_soft_33 ?_
      refine g_istore d_M_soft_34 (by decide) ?_
      exact w_M_soft_L36 (X := X) (d := d) 200 _ _ _ _ _ _ _
    · refine g_aload_n d_M_soft_19 rfl ?_
      refine g_iconst d_M_soft_20 ?_
      refine g_callV1I d_M_soft_21 ml_M_61 vk_M_finding rfl ⟨_, rfl, rfl⟩ rfl (Nat.le_of_ble_eq_true rfl) (w_M_finding (X := X) (d := d) _ _) (fun q16 => ?_)
      exact g_ireturn d_M_soft_24 rfl rfl rfl
def f_M_allFirm_L4 : Nat → Int32 → Int32 → St → Option (Int32 × St)
  | 0, _, _, _ => none
  | n + 1, y1, y2, S => (if 40 ≤ y2 then some (y1, S) else (if inb (12 + y2) 92 = true then let x3 : Int32 := (y1 + (S 47 ((12 + y2)).toNatClampNeg)); f_M_allFirm_L4   n x3 (y2 + 1) S else none))
set_option maxRecDepth 4000 in
theorem w_M_allFirm_L4 {X : xC} {d : Nat}   : ∀ (n : Nat) (y1 : Int32) (y2 : Int32) (S : St), SemG eI X k_M_allFirm (d) 4 [some (.ref (xB X + 46)), some (.int y1), some (.int y2)] [] S (f_M_allFirm_L4   n y1 y2 S) := by
  intro n
  induction n with
  | zero => intro _ _ _; exact g_none
  | succ n ih =>
    intro y1 y2 S
    unfold f_M_allFirm_L4
    refine g_iload_n d_M_allFirm_4 rfl ?_
    refine g_bipush d_M_allFirm_5 ?_
    refine s_icmp_ge d_M_allFirm_7 (fun u1 => ?_) (fun u1 => ?_)
    · refine g_iload_n d_M_allFirm_28 rfl ?_
      exact g_ireturn d_M_allFirm_29 rfl rfl rfl
    · refine g_iload_n d_M_allFirm_10 rfl ?_
      refine g_aload_n d_M_allFirm_11 rfl ?_
      refine g_getR d_M_allFirm_12 fl_M_7 rfl rfl ?_
      refine g_bipush d_M_allFirm_15 ?_
      refine g_iload_n d_M_allFirm_17 rfl ?_
      refine g_iadd d_M_allFirm_18 ?_
      refine g_guard (fun hb2 => ?_)
      refine g_ild d_M_allFirm_19 rfl hb2 rfl ?_
      refine g_iadd d_M_allFirm_20 ?_
      refine g_istore_n d_M_allFirm_21 (by decide) ?_
      refine g_iinc d_M_allFirm_22 (by decide) rfl ?_
      refine g_goto d_M_allFirm_25 ?_
      exact ih _ _ _
def f_M_allFirm (S : St) : Option (Int32 × St) := f_M_allFirm_L4   200 0 0 S
set_option maxRecDepth 4000 in
theorem w_M_allFirm {X : xC} {d : Nat}  (S : St) : SemG eI X k_M_allFirm (d) 0 [some (.ref (xB X + 46)), none, none] [] S (f_M_allFirm   S) := by
  unfold f_M_allFirm
  refine g_iconst d_M_allFirm_0 ?_
  refine g_istore_n d_M_allFirm_1 (by decide) ?_
  refine g_iconst d_M_allFirm_2 ?_
  refine g_istore_n d_M_allFirm_3 (by decide) ?_
  exact w_M_allFirm_L4 (X := X) (d := d) 200 _ _ _
def f_M_draw (S : St) : Option (Int32 × St) := let S1 := put S 47 10 (((S 47 10) * 1103515245) + 12345); some ((((S1 47 10)).toUInt32 >>> (Int32.toUInt32 8 &&& Int32.toUInt32 31)).toInt32, S1)
set_option maxRecDepth 4000 in
theorem w_M_draw {X : xC} {d : Nat}  (S : St) : SemG eI X k_M_draw (d) 0 [some (.ref (xB X + 46))] [] S (f_M_draw   S) := by
  unfold f_M_draw
  refine g_aload_n d_M_draw_0 rfl ?_
  refine g_getR d_M_draw_1 fl_M_7 rfl rfl ?_
  refine g_bipush d_M_draw_4 ?_
  refine g_aload_n d_M_draw_6 rfl ?_
  refine g_getR d_M_draw_7 fl_M_7 rfl rfl ?_
  refine g_bipush d_M_draw_10 ?_
  refine g_ild d_M_draw_12 rfl il_10_92.1 il_10_92.2 ?_
  refine g_ldc d_M_draw_13 cn_M_85 ?_
  refine g_imul d_M_draw_15 ?_
  refine g_sipush d_M_draw_16 ?_
  refine g_iadd d_M_draw_19 ?_
  refine g_ist d_M_draw_20 rfl il_10_92.1 il_10_92.2 ?_
  refine g_aload_n d_M_draw_21 rfl ?_
  refine g_getR d_M_draw_22 fl_M_7 rfl rfl ?_
  refine g_bipush d_M_draw_25 ?_
  refine g_ild d_M_draw_27 rfl il_10_92.1 il_10_92.2 ?_
  refine g_bipush d_M_draw_28 ?_
  refine g_iushr d_M_draw_30 ?_
  exact g_ireturn d_M_draw_31 rfl rfl rfl
def f_M_wind_L18 : Nat → Int32 → Int32 → St → Option (Int32 × St)
  | 0, _, _, _ => none
  | n + 1, y1, y2, S => (if y1 ≤ y2 then ((f_M_allFirm S).bind fun q4 => some (q4.1, q4.2)) else ((f_M_draw S).bind fun q5 => let x6 : Int32 := (q5.1 - q5.1 / 40 * 40); ((f_M_draw q5.2).bind fun q7 => (if inb (12 + x6) 92 = true then let S9 := put q7.2 47 ((12 + x6)).toNatClampNeg (q7.1 - q7.1 / 100 * 100); f_M_wind_L18   n y1 (y2 + 1) S9 else none))))
set_option maxRecDepth 4000 in
theorem w_M_wind_L18 {X : xC} {d : Nat}   : ∀ (n : Nat) (y1 : Int32) (y2 : Int32) (S : St), SemG eI X k_M_wind (d + 1) 18 [some (.ref (xB X + 46)), some (.int y1), some (.int y2), none] [] S (f_M_wind_L18   n y1 y2 S) := by
  intro n
  induction n with
  | zero => intro _ _ _; exact g_none
  | succ n ih =>
    intro y1 y2 S
    unfold f_M_wind_L18
    refine g_iload_n d_M_wind_18 rfl ?_
    refine g_iload_n d_M_wind_19 rfl ?_
    refine s_icmp_ge d_M_wind_20 (fun u3 => ?_) (fun u3 => ?_)
    · refine g_aload_n d_M_wind_53 rfl ?_
      refine g_callV0I d_M_wind_54 ml_M_89 vk_M_allFirm rfl ⟨_, rfl, rfl⟩ (Nat.le_of_ble_eq_true rfl) (w_M_allFirm (X := X) (d := d) _) (fun q4 => ?_)
      exact g_ireturn d_M_wind_57 rfl rfl rfl
    · refine g_aload_n d_M_wind_23 rfl ?_
      refine g_callV0I d_M_wind_24 ml_M_86 vk_M_draw rfl ⟨_, rfl, rfl⟩ (Nat.le_of_ble_eq_true rfl) (w_M_draw (X := X) (d := d) _) (fun q5 => ?_)
      refine g_bipush d_M_wind_27 ?_
      refine g_irem d_M_wind_29 (by decide) ?_
      refine g_istore_n d_M_wind_30 (by decide) ?_
      refine g_aload_n d_M_wind_31 rfl ?_
      refine g_getR d_M_wind_32 fl_M_7 rfl rfl ?_
      refine g_bipush d_M_wind_35 ?_
      refine g_iload_n d_M_wind_37 rfl ?_
      refine g_iadd d_M_wind_38 ?_
      refine g_aload_n d_M_wind_39 rfl ?_
      refine g_callV0I d_M_wind_40 ml_M_86 vk_M_draw rfl ⟨_, rfl, rfl⟩ (Nat.le_of_ble_eq_true rfl) (w_M_draw (X := X) (d := d) _) (fun q7 => ?_)
      refine g_bipush d_M_wind_43 ?_
      refine g_irem d_M_wind_45 (by decide) ?_
      refine g_guard (fun hb8 => ?_)
      refine g_ist d_M_wind_46 rfl hb8 rfl ?_
      refine g_iinc d_M_wind_47 (by decide) rfl ?_
      refine g_goto d_M_wind_50 ?_
      refine g_drop 3 ?_
      exact ih _ _ _
def f_M_wind (p1 : Int32) (S : St) : Option (Int32 × St) := ((f_M_in p1 1 60 S).bind fun q1 => (if (bI q1.1) = 0 then ((f_M_finding 0 q1.2).bind fun q10 => some (q10.1, q10.2)) else f_M_wind_L18   200 p1 0 q1.2))
set_option maxRecDepth 4000 in
theorem w_M_wind {X : xC} {d : Nat}  (p1 : Int32) (S : St) : SemG eI X k_M_wind (d + 1) 0 [some (.ref (xB X + 46)), some (.int p1), none, none] [] S (f_M_wind  p1 S) := by
  unfold f_M_wind
  refine g_iload_n d_M_wind_0 rfl ?_
  refine g_iconst d_M_wind_1 ?_
  refine g_bipush d_M_wind_2 ?_
  refine g_callS3B d_M_wind_4 ml_M_45 sk_M_in rfl rfl rfl (Nat.le_of_ble_eq_true rfl) (w_M_in (X := X) (d := d) _ _ _ _) (fun q1 => ?_)
  refine s_if_ne d_M_wind_7 (fun u2 => ?_) (fun u2 => ?_)
  · refine g_iconst d_M_wind_16 ?_
    refine g_istore_n d_M_wind_17 (by decide) ?_
    exact w_M_wind_L18 (X := X) (d := d) 200 _ _ _
  · refine g_aload_n d_M_wind_10 rfl ?_
    refine g_iconst d_M_wind_11 ?_
    refine g_callV1I d_M_wind_12 ml_M_61 vk_M_finding rfl ⟨_, rfl, rfl⟩ rfl (Nat.le_of_ble_eq_true rfl) (w_M_finding (X := X) (d := d) _ _) (fun q10 => ?_)
    exact g_ireturn d_M_wind_15 rfl rfl rfl
def f_M_isSlot (p1 : Int32) (S : St) : Option (Bool × St) := ((f_M_in p1 0 9 S).bind fun q1 => some (q1.1, q1.2))
set_option maxRecDepth 4000 in
theorem w_M_isSlot {X : xC} {d : Nat}  (p1 : Int32) (S : St) : SemG eB X k_M_isSlot (d + 1) 0 [some (.int p1)] [] S (f_M_isSlot  p1 S) := by
  unfold f_M_isSlot
  refine g_iload_n d_M_isSlot_0 rfl ?_
  refine g_iconst d_M_isSlot_1 ?_
  refine g_bipush d_M_isSlot_2 ?_
  refine g_callS3B d_M_isSlot_4 ml_M_45 sk_M_in rfl rfl rfl (Nat.le_of_ble_eq_true rfl) (w_M_in (X := X) (d := d) _ _ _ _) (fun q1 => ?_)
  refine g_zreturn d_M_isSlot_7 rfl ?_ rfl
  rfl
def f_M_isKind (p1 : Int32) (S : St) : Option (Bool × St) := ((f_M_in p1 0 7 S).bind fun q1 => some (q1.1, q1.2))
set_option maxRecDepth 4000 in
theorem w_M_isKind {X : xC} {d : Nat}  (p1 : Int32) (S : St) : SemG eB X k_M_isKind (d + 1) 0 [some (.int p1)] [] S (f_M_isKind  p1 S) := by
  unfold f_M_isKind
  refine g_iload_n d_M_isKind_0 rfl ?_
  refine g_iconst d_M_isKind_1 ?_
  refine g_bipush d_M_isKind_2 ?_
  refine g_callS3B d_M_isKind_4 ml_M_45 sk_M_in rfl rfl rfl (Nat.le_of_ble_eq_true rfl) (w_M_in (X := X) (d := d) _ _ _ _) (fun q1 => ?_)
  refine g_zreturn d_M_isKind_7 rfl ?_ rfl
  rfl
def f_M_effort (p1 p2 : Int32) (S : St) : Option (Int32 × St) := ((f_M_isSlot p1 S).bind fun q1 => (if (bI q1.1) = 0 then ((f_M_finding 0 q1.2).bind fun q3 => some (q3.1, q3.2)) else (if p2 = (-1) then (if inb (52 + p1) 92 = true then let S6 := put q1.2 47 ((52 + p1)).toNatClampNeg p2; some (1, S6) else none) else ((f_M_isKind p2 q1.2).bind fun q7 => (if (bI q7.1) = 0 then ((f_M_finding 0 q7.2).bind fun q11 => some (q11.1, q11.2)) else (if inb (52 + p1) 92 = true then let S10 := put q7.2 47 ((52 + p1)).toNatClampNeg p2; some (1, S10) else none))))))
set_option maxRecDepth 4000 in
theorem w_M_effort {X : xC} {d : Nat}  (p1 p2 : Int32) (S : St) : SemG eI X k_M_effort (d + 2) 0 [some (.ref (xB X + 46)), some (.int p1), some (.int p2)] [] S (f_M_effort  p1 p2 S) := by
  unfold f_M_effort
  refine g_iload_n d_M_effort_0 rfl ?_
  refine g_callS1B d_M_effort_1 ml_M_108 sk_M_isSlot rfl (Nat.le_of_ble_eq_true rfl) (w_M_isSlot (X := X) (d := d) _ _) (fun q1 => ?_)
  refine s_if_eq d_M_effort_4 (fun u2 => ?_) (fun u2 => ?_)
  · refine g_aload_n d_M_effort_19 rfl ?_
    refine g_iconst d_M_effort_20 ?_
    refine g_callV1I d_M_effort_21 ml_M_61 vk_M_finding rfl ⟨_, rfl, rfl⟩ rfl (Nat.le_of_ble_eq_true rfl) (w_M_finding (X := X) (d := d + 1) _ _) (fun q3 => ?_)
    exact g_ireturn d_M_effort_24 rfl rfl rfl
  · refine g_iload_n d_M_effort_7 rfl ?_
    refine g_iconst d_M_effort_8 ?_
    refine s_icmp_eq d_M_effort_9 (fun u4 => ?_) (fun u4 => ?_)
    · refine g_aload_n d_M_effort_25 rfl ?_
      refine g_getR d_M_effort_26 fl_M_7 rfl rfl ?_
      refine g_bipush d_M_effort_29 ?_
      refine g_iload_n d_M_effort_31 rfl ?_
      refine g_iadd d_M_effort_32 ?_
      refine g_iload_n d_M_effort_33 rfl ?_
      refine g_guard (fun hb5 => ?_)
      refine g_ist d_M_effort_34 rfl hb5 rfl ?_
      refine g_iconst d_M_effort_35 ?_
      exact g_ireturn d_M_effort_36 rfl rfl rfl
    · refine g_iload_n d_M_effort_12 rfl ?_
      refine g_callS1B d_M_effort_13 ml_M_111 sk_M_isKind rfl (Nat.le_of_ble_eq_true rfl) (w_M_isKind (X := X) (d := d) _ _) (fun q7 => ?_)
      refine s_if_ne d_M_effort_16 (fun u8 => ?_) (fun u8 => ?_)
      · refine g_aload_n d_M_effort_25 rfl ?_
        refine g_getR d_M_effort_26 fl_M_7 rfl rfl ?_
        refine g_bipush d_M_effort_29 ?_
        refine g_iload_n d_M_effort_31 rfl ?_
        refine g_iadd d_M_effort_32 ?_
        refine g_iload_n d_M_effort_33 rfl ?_
        refine g_guard (fun hb9 => ?_)
        refine g_ist d_M_effort_34 rfl hb9 rfl ?_
        refine g_iconst d_M_effort_35 ?_
        exact g_ireturn d_M_effort_36 rfl rfl rfl
      · refine g_aload_n d_M_effort_19 rfl ?_
        refine g_iconst d_M_effort_20 ?_
        refine g_callV1I d_M_effort_21 ml_M_61 vk_M_finding rfl ⟨_, rfl, rfl⟩ rfl (Nat.le_of_ble_eq_true rfl) (w_M_finding (X := X) (d := d + 1) _ _) (fun q11 => ?_)
        exact g_ireturn d_M_effort_24 rfl rfl rfl
def f_M_workOf (p1 : Int32) (S : St) : Option (Int32 × St) := let x5 : Int32 := (if p1 = 1 then 3 else (if p1 = 2 then 3 else (if p1 = 5 then 4 else (if p1 = 3 then 2 else 0)))); some (x5, S)
set_option maxRecDepth 4000 in
theorem w_M_workOf {X : xC} {d : Nat}  (p1 : Int32) (S : St) : SemG eI X k_M_workOf (d) 0 [some (.int p1)] [] S (f_M_workOf  p1 S) := by
  unfold f_M_workOf
  refine g_iload_n d_M_workOf_0 rfl ?_
  refine g_iconst d_M_workOf_1 ?_
  refine m_icmp_eq d_M_workOf_2 (fun hJ4 => g_iconst d_M_workOf_10 (g_goto d_M_workOf_11 hJ4)) (fun hJ4 => g_iload_n d_M_workOf_5 rfl (g_iconst d_M_workOf_6 (m_icmp_ne d_M_workOf_7 (fun hJ3 => g_iload_n d_M_workOf_14 rfl (g_iconst d_M_workOf_15 (m_icmp_ne d_M_workOf_16 (fun hJ2 => g_iload_n d_M_workOf_23 rfl (g_iconst d_M_workOf_24 (m_icmp_ne d_M_workOf_25 (fun hJ1 => g_iconst d_M_workOf_32 hJ1) (fun hJ1 => g_iconst d_M_workOf_28 (g_goto d_M_workOf_29 hJ1)) hJ2))) (fun hJ2 => g_iconst d_M_workOf_19 (g_goto d_M_workOf_20 hJ2)) hJ3))) (fun hJ3 => g_iconst d_M_workOf_10 (g_goto d_M_workOf_11 hJ3)) hJ4))) ?_
  exact g_ireturn d_M_workOf_33 rfl rfl rfl
def f_M_minutesOf (p1 : Int32) (S : St) : Option (Int32 × St) := (if p1 = 1 then some (30, S) else (if p1 = 2 then some (45, S) else (if p1 = 3 then some (40, S) else (if p1 = 4 then some (10, S) else (if p1 = 5 then some (105, S) else (if p1 = 6 then some (1, S) else (if p1 = 7 then let x8 : Int32 := ((1680 - ((840 + (S 47 7)) - (840 + (S 47 7)) / 1440 * 1440)) - (1680 - ((840 + (S 47 7)) - (840 + (S 47 7)) / 1440 * 1440)) / 1440 * 1440); let x10 : Int32 := (if x8 = 0 then 1440 else x8); some (x10, S) else some (1, S))))))))
set_option maxRecDepth 4000 in
theorem w_M_minutesOf {X : xC} {d : Nat}  (p1 : Int32) (S : St) : SemG eI X k_M_minutesOf (d) 0 [some (.ref (xB X + 46)), some (.int p1), none] [] S (f_M_minutesOf  p1 S) := by
  unfold f_M_minutesOf
  refine g_iload_n d_M_minutesOf_0 rfl ?_
  refine g_ite (fun u1 => ?_) (fun u1 => ?_)
  · refine g_tcase (off := 43) (tgt := 44) d_M_minutesOf_1 u1 (by decide) ?_
    refine g_bipush d_M_minutesOf_44 ?_
    exact g_ireturn d_M_minutesOf_46 rfl rfl rfl
  refine g_ite (fun u2 => ?_) (fun u2 => ?_)
  · refine g_tcase (off := 46) (tgt := 47) d_M_minutesOf_1 u2 (by decide) ?_
    refine g_bipush d_M_minutesOf_47 ?_
    exact g_ireturn d_M_minutesOf_49 rfl rfl rfl
  refine g_ite (fun u3 => ?_) (fun u3 => ?_)
  · refine g_tcase (off := 52) (tgt := 53) d_M_minutesOf_1 u3 (by decide) ?_
    refine g_bipush d_M_minutesOf_53 ?_
    exact g_ireturn d_M_minutesOf_55 rfl rfl rfl
  refine g_ite (fun u4 => ?_) (fun u4 => ?_)
  · refine g_tcase (off := 55) (tgt := 56) d_M_minutesOf_1 u4 (by decide) ?_
    refine g_bipush d_M_minutesOf_56 ?_
    exact g_ireturn d_M_minutesOf_58 rfl rfl rfl
  refine g_ite (fun u5 => ?_) (fun u5 => ?_)
  · refine g_tcase (off := 49) (tgt := 50) d_M_minutesOf_1 u5 (by decide) ?_
    refine g_bipush d_M_minutesOf_50 ?_
    exact g_ireturn d_M_minutesOf_52 rfl rfl rfl
  refine g_ite (fun u6 => ?_) (fun u6 => ?_)
  · refine g_tcase (off := 94) (tgt := 95) d_M_minutesOf_1 u6 (by decide) ?_
    refine g_iconst d_M_minutesOf_95 ?_
    exact g_ireturn d_M_minutesOf_96 rfl rfl rfl
  refine g_ite (fun u7 => ?_) (fun u7 => ?_)
  · refine g_tcase (off := 58) (tgt := 59) d_M_minutesOf_1 u7 (by decide) ?_
    refine g_sipush d_M_minutesOf_59 ?_
    refine g_sipush d_M_minutesOf_62 ?_
    refine g_aload_n d_M_minutesOf_65 rfl ?_
    refine g_getR d_M_minutesOf_66 fl_M_7 rfl rfl ?_
    refine g_bipush d_M_minutesOf_69 ?_
    refine g_ild d_M_minutesOf_71 rfl il_7_92.1 il_7_92.2 ?_
    refine g_iadd d_M_minutesOf_72 ?_
    refine g_sipush d_M_minutesOf_73 ?_
    refine g_irem d_M_minutesOf_76 (by decide) ?_
    refine g_isub d_M_minutesOf_77 ?_
    refine g_sipush d_M_minutesOf_78 ?_
    refine g_irem d_M_minutesOf_81 (by decide) ?_
    refine g_istore_n d_M_minutesOf_82 (by decide) ?_
    refine g_iload_n d_M_minutesOf_83 rfl ?_
    refine m_if_ne d_M_minutesOf_84 (fun hJ9 => g_iload_n d_M_minutesOf_93 rfl hJ9) (fun hJ9 => g_sipush d_M_minutesOf_87 (g_goto d_M_minutesOf_90 hJ9)) ?_
    exact g_ireturn d_M_minutesOf_94 rfl rfl rfl
  have eu1 := ne32 (n := 1) u1 (by decide)
  have eu2 := ne32 (n := 2) u2 (by decide)
  have eu3 := ne32 (n := 3) u3 (by decide)
  have eu4 := ne32 (n := 4) u4 (by decide)
  have eu5 := ne32 (n := 5) u5 (by decide)
  have eu6 := ne32 (n := 6) u6 (by decide)
  have eu7 := ne32 (n := 7) u7 (by decide)
  refine g_tdef (tgt := 95) d_M_minutesOf_1 (by omega) (by decide) ?_
  refine g_iconst d_M_minutesOf_95 ?_
  exact g_ireturn d_M_minutesOf_96 rfl rfl rfl
def f_M_drinks (p1 : Int32) (S : St) : Option (Int32 × St) := ((f_M_workOf p1 S).bind fun q1 => ((f_M_heat q1.2).bind fun q2 => ((f_M_minutesOf p1 q2.2).bind fun q3 => some ((((((S 47 5) * (q1.1 + 1)) * q2.1) * q3.1) / 60), q3.2))))
set_option maxRecDepth 4000 in
theorem w_M_drinks {X : xC} {d : Nat}  (p1 : Int32) (S : St) : SemG eI X k_M_drinks (d + 2) 0 [some (.ref (xB X + 46)), some (.int p1)] [] S (f_M_drinks  p1 S) := by
  unfold f_M_drinks
  refine g_aload_n d_M_drinks_0 rfl ?_
  refine g_getR d_M_drinks_1 fl_M_7 rfl rfl ?_
  refine g_iconst d_M_drinks_4 ?_
  refine g_ild d_M_drinks_5 rfl il_5_92.1 il_5_92.2 ?_
  refine g_iload_n d_M_drinks_6 rfl ?_
  refine g_callS1I d_M_drinks_7 ml_M_92 sk_M_workOf rfl (Nat.le_of_ble_eq_true rfl) (w_M_workOf (X := X) (d := d + 1) _ _) (fun q1 => ?_)
  refine g_iconst d_M_drinks_10 ?_
  refine g_iadd d_M_drinks_11 ?_
  refine g_imul d_M_drinks_12 ?_
  refine g_aload_n d_M_drinks_13 rfl ?_
  refine g_callV0I d_M_drinks_14 ml_M_75 vk_M_heat rfl ⟨_, rfl, rfl⟩ (Nat.le_of_ble_eq_true rfl) (w_M_heat (X := X) (d := d) _) (fun q2 => ?_)
  refine g_imul d_M_drinks_17 ?_
  refine g_aload_n d_M_drinks_18 rfl ?_
  refine g_iload_n d_M_drinks_19 rfl ?_
  refine g_callV1I d_M_drinks_20 ml_M_95 vk_M_minutesOf rfl ⟨_, rfl, rfl⟩ rfl (Nat.le_of_ble_eq_true rfl) (w_M_minutesOf (X := X) (d := d + 1) _ _) (fun q3 => ?_)
  refine g_imul d_M_drinks_23 ?_
  refine g_bipush d_M_drinks_24 ?_
  refine g_idiv d_M_drinks_26 (by decide) ?_
  exact g_ireturn d_M_drinks_27 rfl rfl rfl
def f_M_effortOf (p1 p2 : Int32) (S : St) : Option (Int32 × St) := ((f_M_isSlot p1 S).bind fun q1 => (if (bI q1.1) = 0 then ((f_M_finding 0 q1.2).bind fun q3 => some (q3.1, q3.2)) else ((f_M_in p2 0 3 q1.2).bind fun q4 => (if (bI q4.1) = 0 then ((f_M_finding 0 q4.2).bind fun q16 => some (q16.1, q16.2)) else (if inb (52 + p1) 92 = true then let x7 : Int32 := (q4.2 47 ((52 + p1)).toNatClampNeg); (if x7 = (-1) then ((f_M_finding 3 q4.2).bind fun q15 => some (q15.1, q15.2)) else (if p2 = 0 then some (x7, q4.2) else (if p2 = 1 then ((f_M_minutesOf x7 q4.2).bind fun q14 => some (q14.1, q14.2)) else (if p2 = 2 then ((f_M_workOf x7 q4.2).bind fun q13 => some (q13.1, q13.2)) else ((f_M_drinks x7 q4.2).bind fun q12 => some (q12.1, q12.2)))))) else none)))))
set_option maxRecDepth 4000 in
theorem w_M_effortOf {X : xC} {d : Nat}  (p1 p2 : Int32) (S : St) : SemG eI X k_M_effortOf (d + 3) 0 [some (.ref (xB X + 46)), some (.int p1), some (.int p2), none] [] S (f_M_effortOf  p1 p2 S) := by
  unfold f_M_effortOf
  refine g_iload_n d_M_effortOf_0 rfl ?_
  refine g_callS1B d_M_effortOf_1 ml_M_108 sk_M_isSlot rfl (Nat.le_of_ble_eq_true rfl) (w_M_isSlot (X := X) (d := d + 1) _ _) (fun q1 => ?_)
  refine s_if_eq d_M_effortOf_4 (fun u2 => ?_) (fun u2 => ?_)
  · refine g_aload_n d_M_effortOf_16 rfl ?_
    refine g_iconst d_M_effortOf_17 ?_
    refine g_callV1I d_M_effortOf_18 ml_M_61 vk_M_finding rfl ⟨_, rfl, rfl⟩ rfl (Nat.le_of_ble_eq_true rfl) (w_M_finding (X := X) (d := d + 2) _ _) (fun q3 => ?_)
    exact g_ireturn d_M_effortOf_21 rfl rfl rfl
  · refine g_iload_n d_M_effortOf_7 rfl ?_
    refine g_iconst d_M_effortOf_8 ?_
    refine g_iconst d_M_effortOf_9 ?_
    refine g_callS3B d_M_effortOf_10 ml_M_45 sk_M_in rfl rfl rfl (Nat.le_of_ble_eq_true rfl) (w_M_in (X := X) (d := d + 2) _ _ _ _) (fun q4 => ?_)
    refine s_if_ne d_M_effortOf_13 (fun u5 => ?_) (fun u5 => ?_)
    · refine g_aload_n d_M_effortOf_22 rfl ?_
      refine g_getR d_M_effortOf_23 fl_M_7 rfl rfl ?_
      refine g_bipush d_M_effortOf_26 ?_
      refine g_iload_n d_M_effortOf_28 rfl ?_
      refine g_iadd d_M_effortOf_29 ?_
      refine g_guard (fun hb6 => ?_)
      refine g_ild d_M_effortOf_30 rfl hb6 rfl ?_
      refine g_istore_n d_M_effortOf_31 (by decide) ?_
      refine g_iload_n d_M_effortOf_32 rfl ?_
      refine g_iconst d_M_effortOf_33 ?_
      refine s_icmp_ne d_M_effortOf_34 (fun u8 => ?_) (fun u8 => ?_)
      · refine g_iload_n d_M_effortOf_43 rfl ?_
        refine s_if_ne d_M_effortOf_44 (fun u9 => ?_) (fun u9 => ?_)
        · refine g_iload_n d_M_effortOf_51 rfl ?_
          refine g_iconst d_M_effortOf_52 ?_
          refine s_icmp_ne d_M_effortOf_53 (fun u10 => ?_) (fun u10 => ?_)
          · refine g_iload_n d_M_effortOf_64 rfl ?_
            refine g_iconst d_M_effortOf_65 ?_
            refine s_icmp_ne d_M_effortOf_66 (fun u11 => ?_) (fun u11 => ?_)
            · refine g_aload_n d_M_effortOf_76 rfl ?_
              refine g_iload_n d_M_effortOf_77 rfl ?_
              refine g_callV1I d_M_effortOf_78 ml_M_98 vk_M_drinks rfl ⟨_, rfl, rfl⟩ rfl (Nat.le_of_ble_eq_true rfl) (w_M_drinks (X := X) (d := d) _ _) (fun q12 => ?_)
              exact g_ireturn d_M_effortOf_81 rfl rfl rfl
            · refine g_iload_n d_M_effortOf_69 rfl ?_
              refine g_callS1I d_M_effortOf_70 ml_M_92 sk_M_workOf rfl (Nat.le_of_ble_eq_true rfl) (w_M_workOf (X := X) (d := d + 2) _ _) (fun q13 => ?_)
              refine g_goto d_M_effortOf_73 ?_
              exact g_ireturn d_M_effortOf_81 rfl rfl rfl
          · refine g_aload_n d_M_effortOf_56 rfl ?_
            refine g_iload_n d_M_effortOf_57 rfl ?_
            refine g_callV1I d_M_effortOf_58 ml_M_95 vk_M_minutesOf rfl ⟨_, rfl, rfl⟩ rfl (Nat.le_of_ble_eq_true rfl) (w_M_minutesOf (X := X) (d := d + 2) _ _) (fun q14 => ?_)
            refine g_goto d_M_effortOf_61 ?_
            exact g_ireturn d_M_effortOf_81 rfl rfl rfl
        · refine g_iload_n d_M_effortOf_47 rfl ?_
          refine g_goto d_M_effortOf_48 ?_
          exact g_ireturn d_M_effortOf_81 rfl rfl rfl
      · refine g_aload_n d_M_effortOf_37 rfl ?_
        refine g_iconst d_M_effortOf_38 ?_
        refine g_callV1I d_M_effortOf_39 ml_M_61 vk_M_finding rfl ⟨_, rfl, rfl⟩ rfl (Nat.le_of_ble_eq_true rfl) (w_M_finding (X := X) (d := d + 2) _ _) (fun q15 => ?_)
        exact g_ireturn d_M_effortOf_42 rfl rfl rfl
    · refine g_aload_n d_M_effortOf_16 rfl ?_
      refine g_iconst d_M_effortOf_17 ?_
      refine g_callV1I d_M_effortOf_18 ml_M_61 vk_M_finding rfl ⟨_, rfl, rfl⟩ rfl (Nat.le_of_ble_eq_true rfl) (w_M_finding (X := X) (d := d + 2) _ _) (fun q16 => ?_)
      exact g_ireturn d_M_effortOf_21 rfl rfl rfl
def f_M_canDo (p1 : Int32) (S : St) : Option (Bool × St) := ((f_M_isOut S).bind fun q1 => (if (bI q1.1) = 0 then ((f_M_drinks p1 q1.2).bind fun q3 => let x5 : Int32 := (if (q3.2 47 6) < q3.1 then 0 else 1); some ((if (q3.2 47 6) < q3.1 then false else true), q3.2)) else some (false, q1.2)))
set_option maxRecDepth 4000 in
theorem w_M_canDo {X : xC} {d : Nat}  (p1 : Int32) (S : St) : SemG eB X k_M_canDo (d + 3) 0 [some (.ref (xB X + 46)), some (.int p1)] [] S (f_M_canDo  p1 S) := by
  unfold f_M_canDo
  refine g_aload_n d_M_canDo_0 rfl ?_
  refine g_callV0B d_M_canDo_1 ml_M_81 vk_M_isOut rfl ⟨_, rfl, rfl⟩ (Nat.le_of_ble_eq_true rfl) (w_M_isOut (X := X) (d := d) _) (fun q1 => ?_)
  refine s_if_ne d_M_canDo_4 (fun u2 => ?_) (fun u2 => ?_)
  · refine g_iconst d_M_canDo_26 ?_
    refine g_zreturn d_M_canDo_27 rfl ?_ rfl
    rfl
  · refine g_aload_n d_M_canDo_7 rfl ?_
    refine g_iload_n d_M_canDo_8 rfl ?_
    refine g_callV1I d_M_canDo_9 ml_M_98 vk_M_drinks rfl ⟨_, rfl, rfl⟩ rfl (Nat.le_of_ble_eq_true rfl) (w_M_drinks (X := X) (d := d) _ _) (fun q3 => ?_)
    refine g_aload_n d_M_canDo_12 rfl ?_
    refine g_getR d_M_canDo_13 fl_M_7 rfl rfl ?_
    refine g_bipush d_M_canDo_16 ?_
    refine g_ild d_M_canDo_18 rfl il_6_92.1 il_6_92.2 ?_
    refine m_icmp_gt d_M_canDo_19 (fun hJ4 => g_iconst d_M_canDo_26 hJ4) (fun hJ4 => g_iconst d_M_canDo_22 (g_goto d_M_canDo_23 hJ4)) ?_
    refine g_zreturn d_M_canDo_27 rfl ?_ rfl
    (repeat' split) <;> rfl
def f_M_digs (S : St) : Option (St) := let x1 : Int32 := ((S 47 1) - (10 * (S 47 5))); let x3 : Int32 := (if 0 ≤ x1 then x1 else 0); let S4 := put S 47 1 x3; some S4
set_option maxRecDepth 4000 in
theorem w_M_digs {X : xC} {d : Nat}  (S : St) : SemG eV X k_M_digs (d) 0 [some (.ref (xB X + 46)), none] [] S (f_M_digs   S) := by
  unfold f_M_digs
  refine g_aload_n d_M_digs_0 rfl ?_
  refine g_getR d_M_digs_1 fl_M_7 rfl rfl ?_
  refine g_iconst d_M_digs_4 ?_
  refine g_ild d_M_digs_5 rfl il_1_92.1 il_1_92.2 ?_
  refine g_bipush d_M_digs_6 ?_
  refine g_aload_n d_M_digs_8 rfl ?_
  refine g_getR d_M_digs_9 fl_M_7 rfl rfl ?_
  refine g_iconst d_M_digs_12 ?_
  refine g_ild d_M_digs_13 rfl il_5_92.1 il_5_92.2 ?_
  refine g_imul d_M_digs_14 ?_
  refine g_isub d_M_digs_15 ?_
  refine g_istore_n d_M_digs_16 (by decide) ?_
  refine g_aload_n d_M_digs_17 rfl ?_
  refine g_getR d_M_digs_18 fl_M_7 rfl rfl ?_
  refine g_iconst d_M_digs_21 ?_
  refine g_iload_n d_M_digs_22 rfl ?_
  refine m_if_ge d_M_digs_23 (fun hJ2 => g_iload_n d_M_digs_30 rfl hJ2) (fun hJ2 => g_iconst d_M_digs_26 (g_goto d_M_digs_27 hJ2)) ?_
  refine g_ist d_M_digs_31 rfl il_1_92.1 il_1_92.2 ?_
  exact g_return d_M_digs_32 rfl rfl
def f_M_pushes_L6 : Nat → Int32 → Int32 → Int32 → Int32 → Int32 → Int32 → Int32 → St → Option (St)
  | 0, _, _, _, _, _, _, _, _ => none
  | n + 1, y1, y2, y3, y4, y5, y6, y7, S => (if y1 ≤ y7 then some S else (if y6 = 0 then some S else ((f_M_isOut S).bind fun q3 => (if (bI q3.1) = 0 then ((f_M_grip (q3.2 47 0) q3.2).bind fun q5 => let x8 : Int32 := (if (q3.2 47 0) < y3 then 0 else (if (y3 + y4) ≤ (q3.2 47 0) then 0 else 30)); let S9 := put q5.2 47 9 ((q5.2 47 9) + 1); ((f_M_weight S9).bind fun q10 => let x12 : Int32 := (if (q5.1 + x8) < (q10.1 - y5) then 0 else 1); let x14 : Int32 := (if x12 = 0 then 0 else y2); let S15 := put q10.2 47 0 ((q10.2 47 0) + x14); let x18 : Int32 := (if x12 = 0 then (if ((S15 47 1) + 4) ≤ 99 then ((S15 47 1) + 4) else 99) else 0); let S19 := put S15 47 1 x18; f_M_pushes_L6   n y1 y2 y3 y4 y5 x12 (y7 + 1) S19)) else some q3.2))))
set_option maxRecDepth 4000 in
theorem w_M_pushes_L6 {X : xC} {d : Nat}   : ∀ (n : Nat) (y1 : Int32) (y2 : Int32) (y3 : Int32) (y4 : Int32) (y5 : Int32) (y6 : Int32) (y7 : Int32) (S : St), SemG eV X k_M_pushes (d + 3) 6 [some (.ref (xB X + 46)), some (.int y1), some (.int y2), some (.int y3), some (.int y4), some (.int y5), some (.int y6), some (.int y7), none, none] [] S (f_M_pushes_L6   n y1 y2 y3 y4 y5 y6 y7 S) := by
  intro n
  induction n with
  | zero => intro _ _ _ _ _ _ _ _; exact g_none
  | succ n ih =>
    intro y1 y2 y3 y4 y5 y6 y7 S
    unfold f_M_pushes_L6
    refine g_iload d_M_pushes_6 rfl ?_
    refine g_iload_n d_M_pushes_8 rfl ?_
    refine s_icmp_ge d_M_pushes_9 (fun u1 => ?_) (fun u1 => ?_)
    · exact g_return d_M_pushes_158 rfl rfl
    · refine g_iload d_M_pushes_12 rfl ?_
      refine s_if_eq d_M_pushes_14 (fun u2 => ?_) (fun u2 => ?_)
      · exact g_return d_M_pushes_158 rfl rfl
      · refine g_aload_n d_M_pushes_17 rfl ?_
        refine g_callV0B d_M_pushes_18 ml_M_81 vk_M_isOut rfl ⟨_, rfl, rfl⟩ (Nat.le_of_ble_eq_true rfl) (w_M_isOut (X := X) (d := d) _) (fun q3 => ?_)
        refine s_if_ne d_M_pushes_21 (fun u4 => ?_) (fun u4 => ?_)
        · exact g_return d_M_pushes_158 rfl rfl
        · refine g_aload_n d_M_pushes_24 rfl ?_
          refine g_getR d_M_pushes_25 fl_M_7 rfl rfl ?_
          refine g_iconst d_M_pushes_28 ?_
          refine g_ild d_M_pushes_29 rfl il_0_92.1 il_0_92.2 ?_
          refine g_istore d_M_pushes_30 (by decide) ?_
          refine g_aload_n d_M_pushes_32 rfl ?_
          refine g_iload d_M_pushes_33 rfl ?_
          refine g_callV1I d_M_pushes_35 ml_M_65 vk_M_grip rfl ⟨_, rfl, rfl⟩ rfl (Nat.le_of_ble_eq_true rfl) (w_M_grip (X := X) (d := d) _ _) (fun q5 => ?_)
          refine g_iload d_M_pushes_38 rfl ?_
          refine g_iload_n d_M_pushes_40 rfl ?_
          refine m_icmp_lt d_M_pushes_41 (fun hJ7 => g_iconst d_M_pushes_58 hJ7) (fun hJ7 => g_iload d_M_pushes_44 rfl (g_iload_n d_M_pushes_46 rfl (g_iload d_M_pushes_47 rfl (g_iadd d_M_pushes_49 (m_icmp_ge d_M_pushes_50 (fun hJ6 => g_iconst d_M_pushes_58 hJ6) (fun hJ6 => g_bipush d_M_pushes_53 (g_goto d_M_pushes_55 hJ6)) hJ7))))) ?_
          refine g_iadd d_M_pushes_59 ?_
          refine g_istore d_M_pushes_60 (by decide) ?_
          refine g_aload_n d_M_pushes_62 rfl ?_
          refine g_getR d_M_pushes_63 fl_M_7 rfl rfl ?_
          refine g_bipush d_M_pushes_66 ?_
          refine g_dup2 d_M_pushes_68 rfl rfl ?_
          refine g_ild d_M_pushes_69 rfl il_9_92.1 il_9_92.2 ?_
          refine g_iconst d_M_pushes_70 ?_
          refine g_iadd d_M_pushes_71 ?_
          refine g_ist d_M_pushes_72 rfl il_9_92.1 il_9_92.2 ?_
          refine g_iload d_M_pushes_73 rfl ?_
          refine g_aload_n d_M_pushes_75 rfl ?_
          refine g_callV0I d_M_pushes_76 ml_M_78 vk_M_weight rfl ⟨_, rfl, rfl⟩ (Nat.le_of_ble_eq_true rfl) (w_M_weight (X := X) (d := d + 2) _) (fun q10 => ?_)
          refine g_iload d_M_pushes_79 rfl ?_
          refine g_isub d_M_pushes_81 ?_
          refine m_icmp_lt d_M_pushes_82 (fun hJ11 => g_iconst d_M_pushes_89 hJ11) (fun hJ11 => g_iconst d_M_pushes_85 (g_goto d_M_pushes_86 hJ11)) ?_
          refine g_istore d_M_pushes_90 (by decide) ?_
          refine g_aload_n d_M_pushes_92 rfl ?_
          refine g_getR d_M_pushes_93 fl_M_7 rfl rfl ?_
          refine g_iconst d_M_pushes_96 ?_
          refine g_dup2 d_M_pushes_97 rfl rfl ?_
          refine g_ild d_M_pushes_98 rfl il_0_92.1 il_0_92.2 ?_
          refine g_iload d_M_pushes_99 rfl ?_
          refine m_if_eq d_M_pushes_101 (fun hJ13 => g_iconst d_M_pushes_108 hJ13) (fun hJ13 => g_iload_n d_M_pushes_104 rfl (g_goto d_M_pushes_105 hJ13)) ?_
          refine g_iadd d_M_pushes_109 ?_
          refine g_ist d_M_pushes_110 rfl il_0_92.1 il_0_92.2 ?_
          refine g_aload_n d_M_pushes_111 rfl ?_
          refine g_getR d_M_pushes_112 fl_M_7 rfl rfl ?_
          refine g_iconst d_M_pushes_115 ?_
          refine g_iload d_M_pushes_116 rfl ?_
          refine m_if_eq d_M_pushes_118 (fun hJ17 => g_aload_n d_M_pushes_125 rfl (g_getR d_M_pushes_126 fl_M_7 rfl rfl (g_iconst d_M_pushes_129 (g_ild d_M_pushes_130 rfl il_1_92.1 il_1_92.2 (g_iconst d_M_pushes_131 (g_iadd d_M_pushes_132 (g_bipush d_M_pushes_133 (m_icmp_le d_M_pushes_135 (fun hJ16 => g_aload_n d_M_pushes_143 rfl (g_getR d_M_pushes_144 fl_M_7 rfl rfl (g_iconst d_M_pushes_147 (g_ild d_M_pushes_148 rfl il_1_92.1 il_1_92.2 (g_iconst d_M_pushes_149 (g_iadd d_M_pushes_150 hJ16)))))) (fun hJ16 => g_bipush d_M_pushes_138 (g_goto d_M_pushes_140 hJ16)) hJ17)))))))) (fun hJ17 => g_iconst d_M_pushes_121 (g_goto d_M_pushes_122 hJ17)) ?_
          refine g_ist d_M_pushes_151 rfl il_1_92.1 il_1_92.2 ?_
          refine g_iinc d_M_pushes_152 (by decide) rfl ?_
          refine g_goto d_M_pushes_155 ?_
          refine g_drop 8 ?_
          refine g_drop 9 ?_
          exact ih _ _ _ _ _ _ _ _
def f_M_pushes (p1 p2 p3 p4 p5 : Int32) (S : St) : Option (St) := f_M_pushes_L6   200 p1 p2 p3 p4 p5 1 0 S
set_option maxRecDepth 4000 in
theorem w_M_pushes {X : xC} {d : Nat}  (p1 p2 p3 p4 p5 : Int32) (S : St) : SemG eV X k_M_pushes (d + 3) 0 [some (.ref (xB X + 46)), some (.int p1), some (.int p2), some (.int p3), some (.int p4), some (.int p5), none, none, none, none] [] S (f_M_pushes  p1 p2 p3 p4 p5 S) := by
  unfold f_M_pushes
  refine g_iconst d_M_pushes_0 ?_
  refine g_istore d_M_pushes_1 (by decide) ?_
  refine g_iconst d_M_pushes_3 ?_
  refine g_istore d_M_pushes_4 (by decide) ?_
  exact w_M_pushes_L6 (X := X) (d := d) 200 _ _ _ _ _ _ _ _
def f_M_does (p1 : Int32) (S : St) : Option (St) := ((f_M_drinks p1 S).bind fun q1 => let S2 := put q1.2 47 6 ((q1.2 47 6) - q1.1); let S3 := put S2 47 8 ((S2 47 8) + q1.1); ((f_M_minutesOf p1 S3).bind fun q4 => let S5 := put q4.2 47 7 ((S3 47 7) + q4.1); (if p1 = 1 then ((f_M_digs S5).bind fun q7 => ((f_M_pushes 3 1 0 0 0 q7).bind fun q8 => some q8)) else (if p1 = 2 then ((f_M_digs S5).bind fun q10 => let x12 : Int32 := (if (S5 47 4) ≤ 2 then 3 else ((S5 47 4) + 1)); let x14 : Int32 := (if p1 = 5 then 15 else 0); ((f_M_pushes x12 1 (S5 47 0) (S5 47 4) x14 q10).bind fun q15 => some q15)) else (if p1 = 3 then let x18 : Int32 := (if 10 ≤ (S5 47 2) then ((S5 47 2) - 10) else 0); let S19 := put S5 47 2 x18; ((f_M_pushes 3 1 0 0 0 S19).bind fun q20 => some q20) else (if p1 = 4 then let x23 : Int32 := (if (S5 47 3) ≤ 6 then ((S5 47 3) + 3) else 9); let S24 := put S5 47 3 x23; ((f_M_pushes 3 1 0 0 0 S24).bind fun q25 => some q25) else (if p1 = 5 then ((f_M_digs S5).bind fun q27 => let x29 : Int32 := (if (S5 47 4) ≤ 2 then 3 else ((S5 47 4) + 1)); let x31 : Int32 := (if p1 = 5 then 15 else 0); ((f_M_pushes x29 1 (S5 47 0) (S5 47 4) x31 q27).bind fun q32 => some q32)) else (if p1 = 6 then ((f_M_pushes 3 (-1) 0 0 0 S5).bind fun q34 => some q34) else (if p1 = 7 then some S5 else ((f_M_pushes 3 1 0 0 0 S5).bind fun q36 => some q36))))))))))
set_option maxRecDepth 4000 in
theorem w_M_does {X : xC} {d : Nat}  (p1 : Int32) (S : St) : SemG eV X k_M_does (d + 4) 0 [some (.ref (xB X + 46)), some (.int p1), none, none, none] [] S (f_M_does  p1 S) := by
  unfold f_M_does
  refine g_aload_n d_M_does_0 rfl ?_
  refine g_iload_n d_M_does_1 rfl ?_
  refine g_callV1I d_M_does_2 ml_M_98 vk_M_drinks rfl ⟨_, rfl, rfl⟩ rfl (Nat.le_of_ble_eq_true rfl) (w_M_drinks (X := X) (d := d + 1) _ _) (fun q1 => ?_)
  refine g_istore_n d_M_does_5 (by decide) ?_
  refine g_aload_n d_M_does_6 rfl ?_
  refine g_getR d_M_does_7 fl_M_7 rfl rfl ?_
  refine g_bipush d_M_does_10 ?_
  refine g_dup2 d_M_does_12 rfl rfl ?_
  refine g_ild d_M_does_13 rfl il_6_92.1 il_6_92.2 ?_
  refine g_iload_n d_M_does_14 rfl ?_
  refine g_isub d_M_does_15 ?_
  refine g_ist d_M_does_16 rfl il_6_92.1 il_6_92.2 ?_
  refine g_aload_n d_M_does_17 rfl ?_
  refine g_getR d_M_does_18 fl_M_7 rfl rfl ?_
  refine g_bipush d_M_does_21 ?_
  refine g_dup2 d_M_does_23 rfl rfl ?_
  refine g_ild d_M_does_24 rfl il_8_92.1 il_8_92.2 ?_
  refine g_iload_n d_M_does_25 rfl ?_
  refine g_iadd d_M_does_26 ?_
  refine g_ist d_M_does_27 rfl il_8_92.1 il_8_92.2 ?_
  refine g_aload_n d_M_does_28 rfl ?_
  refine g_getR d_M_does_29 fl_M_7 rfl rfl ?_
  refine g_bipush d_M_does_32 ?_
  refine g_dup2 d_M_does_34 rfl rfl ?_
  refine g_ild d_M_does_35 rfl il_7_92.1 il_7_92.2 ?_
  refine g_aload_n d_M_does_36 rfl ?_
  refine g_iload_n d_M_does_37 rfl ?_
  refine g_callV1I d_M_does_38 ml_M_95 vk_M_minutesOf rfl ⟨_, rfl, rfl⟩ rfl (Nat.le_of_ble_eq_true rfl) (w_M_minutesOf (X := X) (d := d + 3) _ _) (fun q4 => ?_)
  refine g_iadd d_M_does_41 ?_
  refine g_ist d_M_does_42 rfl il_7_92.1 il_7_92.2 ?_
  refine g_aload_n d_M_does_43 rfl ?_
  refine g_getR d_M_does_44 fl_M_7 rfl rfl ?_
  refine g_iconst d_M_does_47 ?_
  refine g_ild d_M_does_48 rfl il_0_92.1 il_0_92.2 ?_
  refine g_istore_n d_M_does_49 (by decide) ?_
  refine g_aload_n d_M_does_50 rfl ?_
  refine g_getR d_M_does_51 fl_M_7 rfl rfl ?_
  refine g_iconst d_M_does_54 ?_
  refine g_ild d_M_does_55 rfl il_4_92.1 il_4_92.2 ?_
  refine g_istore d_M_does_56 (by decide) ?_
  refine g_iload_n d_M_does_58 rfl ?_
  refine g_ite (fun u6 => ?_) (fun u6 => ?_)
  · refine g_tcase (off := 41) (tgt := 100) d_M_does_59 u6 (by decide) ?_
    refine g_aload_n d_M_does_100 rfl ?_
    refine g_callV0V d_M_does_101 ml_M_101 vk_M_digs rfl ⟨_, rfl, rfl⟩ (Nat.le_of_ble_eq_true rfl) (w_M_digs (X := X) (d := d + 3) _) (fun q7 => ?_)
    refine g_aload_n d_M_does_104 rfl ?_
    refine g_iconst d_M_does_105 ?_
    refine g_iconst d_M_does_106 ?_
    refine g_iconst d_M_does_107 ?_
    refine g_iconst d_M_does_108 ?_
    refine g_iconst d_M_does_109 ?_
    refine g_callV5V d_M_does_110 ml_M_104 vk_M_pushes rfl ⟨_, rfl, rfl⟩ rfl rfl rfl rfl rfl (Nat.le_of_ble_eq_true rfl) (w_M_pushes (X := X) (d := d) _ _ _ _ _ _) (fun q8 => ?_)
    refine g_goto d_M_does_113 ?_
    exact g_return d_M_does_264 rfl rfl
  refine g_ite (fun u9 => ?_) (fun u9 => ?_)
  · refine g_tcase (off := 57) (tgt := 116) d_M_does_59 u9 (by decide) ?_
    refine g_aload_n d_M_does_116 rfl ?_
    refine g_callV0V d_M_does_117 ml_M_101 vk_M_digs rfl ⟨_, rfl, rfl⟩ (Nat.le_of_ble_eq_true rfl) (w_M_digs (X := X) (d := d + 3) _) (fun q10 => ?_)
    refine g_aload_n d_M_does_120 rfl ?_
    refine g_iload d_M_does_121 rfl ?_
    refine g_iconst d_M_does_123 ?_
    refine m_icmp_le d_M_does_124 (fun hJ11 => g_iconst d_M_does_134 hJ11) (fun hJ11 => g_iload d_M_does_127 rfl (g_iconst d_M_does_129 (g_iadd d_M_does_130 (g_goto d_M_does_131 hJ11)))) ?_
    refine g_iconst d_M_does_135 ?_
    refine g_iload_n d_M_does_136 rfl ?_
    refine g_iload d_M_does_137 rfl ?_
    refine g_iload_n d_M_does_139 rfl ?_
    refine g_iconst d_M_does_140 ?_
    refine m_icmp_ne d_M_does_141 (fun hJ13 => g_iconst d_M_does_149 hJ13) (fun hJ13 => g_bipush d_M_does_144 (g_goto d_M_does_146 hJ13)) ?_
    refine g_callV5V d_M_does_150 ml_M_104 vk_M_pushes rfl ⟨_, rfl, rfl⟩ rfl rfl rfl rfl rfl (Nat.le_of_ble_eq_true rfl) (w_M_pushes (X := X) (d := d) _ _ _ _ _ _) (fun q15 => ?_)
    refine g_goto d_M_does_153 ?_
    exact g_return d_M_does_264 rfl rfl
  refine g_ite (fun u16 => ?_) (fun u16 => ?_)
  · refine g_tcase (off := 97) (tgt := 156) d_M_does_59 u16 (by decide) ?_
    refine g_aload_n d_M_does_156 rfl ?_
    refine g_getR d_M_does_157 fl_M_7 rfl rfl ?_
    refine g_iconst d_M_does_160 ?_
    refine g_aload_n d_M_does_161 rfl ?_
    refine g_getR d_M_does_162 fl_M_7 rfl rfl ?_
    refine g_iconst d_M_does_165 ?_
    refine g_ild d_M_does_166 rfl il_2_92.1 il_2_92.2 ?_
    refine g_bipush d_M_does_167 ?_
    refine m_icmp_ge d_M_does_169 (fun hJ17 => g_aload_n d_M_does_176 rfl (g_getR d_M_does_177 fl_M_7 rfl rfl (g_iconst d_M_does_180 (g_ild d_M_does_181 rfl il_2_92.1 il_2_92.2 (g_bipush d_M_does_182 (g_isub d_M_does_184 hJ17)))))) (fun hJ17 => g_iconst d_M_does_172 (g_goto d_M_does_173 hJ17)) ?_
    refine g_ist d_M_does_185 rfl il_2_92.1 il_2_92.2 ?_
    refine g_aload_n d_M_does_186 rfl ?_
    refine g_iconst d_M_does_187 ?_
    refine g_iconst d_M_does_188 ?_
    refine g_iconst d_M_does_189 ?_
    refine g_iconst d_M_does_190 ?_
    refine g_iconst d_M_does_191 ?_
    refine g_callV5V d_M_does_192 ml_M_104 vk_M_pushes rfl ⟨_, rfl, rfl⟩ rfl rfl rfl rfl rfl (Nat.le_of_ble_eq_true rfl) (w_M_pushes (X := X) (d := d) _ _ _ _ _ _) (fun q20 => ?_)
    refine g_goto d_M_does_195 ?_
    exact g_return d_M_does_264 rfl rfl
  refine g_ite (fun u21 => ?_) (fun u21 => ?_)
  · refine g_tcase (off := 139) (tgt := 198) d_M_does_59 u21 (by decide) ?_
    refine g_aload_n d_M_does_198 rfl ?_
    refine g_getR d_M_does_199 fl_M_7 rfl rfl ?_
    refine g_iconst d_M_does_202 ?_
    refine g_aload_n d_M_does_203 rfl ?_
    refine g_getR d_M_does_204 fl_M_7 rfl rfl ?_
    refine g_iconst d_M_does_207 ?_
    refine g_ild d_M_does_208 rfl il_3_92.1 il_3_92.2 ?_
    refine g_bipush d_M_does_209 ?_
    refine m_icmp_le d_M_does_211 (fun hJ22 => g_aload_n d_M_does_219 rfl (g_getR d_M_does_220 fl_M_7 rfl rfl (g_iconst d_M_does_223 (g_ild d_M_does_224 rfl il_3_92.1 il_3_92.2 (g_iconst d_M_does_225 (g_iadd d_M_does_226 hJ22)))))) (fun hJ22 => g_bipush d_M_does_214 (g_goto d_M_does_216 hJ22)) ?_
    refine g_ist d_M_does_227 rfl il_3_92.1 il_3_92.2 ?_
    refine g_aload_n d_M_does_228 rfl ?_
    refine g_iconst d_M_does_229 ?_
    refine g_iconst d_M_does_230 ?_
    refine g_iconst d_M_does_231 ?_
    refine g_iconst d_M_does_232 ?_
    refine g_iconst d_M_does_233 ?_
    refine g_callV5V d_M_does_234 ml_M_104 vk_M_pushes rfl ⟨_, rfl, rfl⟩ rfl rfl rfl rfl rfl (Nat.le_of_ble_eq_true rfl) (w_M_pushes (X := X) (d := d) _ _ _ _ _ _) (fun q25 => ?_)
    refine g_goto d_M_does_237 ?_
    exact g_return d_M_does_264 rfl rfl
  refine g_ite (fun u26 => ?_) (fun u26 => ?_)
  · refine g_tcase (off := 57) (tgt := 116) d_M_does_59 u26 (by decide) ?_
    refine g_aload_n d_M_does_116 rfl ?_
    refine g_callV0V d_M_does_117 ml_M_101 vk_M_digs rfl ⟨_, rfl, rfl⟩ (Nat.le_of_ble_eq_true rfl) (w_M_digs (X := X) (d := d + 3) _) (fun q27 => ?_)
    refine g_aload_n d_M_does_120 rfl ?_
    refine g_iload d_M_does_121 rfl ?_
    refine g_iconst d_M_does_123 ?_
    refine m_icmp_le d_M_does_124 (fun hJ28 => g_iconst d_M_does_134 hJ28) (fun hJ28 => g_iload d_M_does_127 rfl (g_iconst d_M_does_129 (g_iadd d_M_does_130 (g_goto d_M_does_131 hJ28)))) ?_
    refine g_iconst d_M_does_135 ?_
    refine g_iload_n d_M_does_136 rfl ?_
    refine g_iload d_M_does_137 rfl ?_
    refine g_iload_n d_M_does_139 rfl ?_
    refine g_iconst d_M_does_140 ?_
    refine m_icmp_ne d_M_does_141 (fun hJ30 => g_iconst d_M_does_149 hJ30) (fun hJ30 => g_bipush d_M_does_144 (g_goto d_M_does_146 hJ30)) ?_
    refine g_callV5V d_M_does_150 ml_M_104 vk_M_pushes rfl ⟨_, rfl, rfl⟩ rfl rfl rfl rfl rfl (Nat.le_of_ble_eq_true rfl) (w_M_pushes (X := X) (d := d) _ _ _ _ _ _) (fun q32 => ?_)
    refine g_goto d_M_does_153 ?_
    exact g_return d_M_does_264 rfl rfl
  refine g_ite (fun u33 => ?_) (fun u33 => ?_)
  · refine g_tcase (off := 181) (tgt := 240) d_M_does_59 u33 (by decide) ?_
    refine g_aload_n d_M_does_240 rfl ?_
    refine g_iconst d_M_does_241 ?_
    refine g_iconst d_M_does_242 ?_
    refine g_iconst d_M_does_243 ?_
    refine g_iconst d_M_does_244 ?_
    refine g_iconst d_M_does_245 ?_
    refine g_callV5V d_M_does_246 ml_M_104 vk_M_pushes rfl ⟨_, rfl, rfl⟩ rfl rfl rfl rfl rfl (Nat.le_of_ble_eq_true rfl) (w_M_pushes (X := X) (d := d) _ _ _ _ _ _) (fun q34 => ?_)
    refine g_goto d_M_does_249 ?_
    exact g_return d_M_does_264 rfl rfl
  refine g_ite (fun u35 => ?_) (fun u35 => ?_)
  · refine g_tcase (off := 193) (tgt := 252) d_M_does_59 u35 (by decide) ?_
    refine g_goto d_M_does_252 ?_
    exact g_return d_M_does_264 rfl rfl
  have eu6 := ne32 (n := 1) u6 (by decide)
  have eu9 := ne32 (n := 2) u9 (by decide)
  have eu16 := ne32 (n := 3) u16 (by decide)
  have eu21 := ne32 (n := 4) u21 (by decide)
  have eu26 := ne32 (n := 5) u26 (by decide)
  have eu33 := ne32 (n := 6) u33 (by decide)
  have eu35 := ne32 (n := 7) u35 (by decide)
  refine g_tdef (tgt := 255) d_M_does_59 (by omega) (by decide) ?_
  refine g_aload_n d_M_does_255 rfl ?_
  refine g_iconst d_M_does_256 ?_
  refine g_iconst d_M_does_257 ?_
  refine g_iconst d_M_does_258 ?_
  refine g_iconst d_M_does_259 ?_
  refine g_iconst d_M_does_260 ?_
  refine g_callV5V d_M_does_261 ml_M_104 vk_M_pushes rfl ⟨_, rfl, rfl⟩ rfl rfl rfl rfl rfl (Nat.le_of_ble_eq_true rfl) (w_M_pushes (X := X) (d := d) _ _ _ _ _ _) (fun q36 => ?_)
  exact g_return d_M_does_264 rfl rfl
def f_M_go (p1 : Int32) (S : St) : Option (Int32 × St) := ((f_M_isSlot p1 S).bind fun q1 => (if (bI q1.1) = 0 then ((f_M_finding 0 q1.2).bind fun q11 => some (q11.1, q11.2)) else (if inb (52 + p1) 92 = true then let x4 : Int32 := (q1.2 47 ((52 + p1)).toNatClampNeg); (if x4 = (-1) then ((f_M_finding 3 q1.2).bind fun q10 => some (q10.1, q10.2)) else ((f_M_canDo x4 q1.2).bind fun q6 => (if (bI q6.1) = 0 then ((f_M_finding 4 q6.2).bind fun q9 => some (q9.1, q9.2)) else ((f_M_does x4 q6.2).bind fun q8 => some (((q8 47 0) - (q6.2 47 0)), q8))))) else none)))
set_option maxRecDepth 4000 in
theorem w_M_go {X : xC} {d : Nat}  (p1 : Int32) (S : St) : SemG eI X k_M_go (d + 5) 0 [some (.ref (xB X + 46)), some (.int p1), none, none] [] S (f_M_go  p1 S) := by
  unfold f_M_go
  refine g_iload_n d_M_go_0 rfl ?_
  refine g_callS1B d_M_go_1 ml_M_108 sk_M_isSlot rfl (Nat.le_of_ble_eq_true rfl) (w_M_isSlot (X := X) (d := d + 3) _ _) (fun q1 => ?_)
  refine s_if_ne d_M_go_4 (fun u2 => ?_) (fun u2 => ?_)
  · refine g_aload_n d_M_go_13 rfl ?_
    refine g_getR d_M_go_14 fl_M_7 rfl rfl ?_
    refine g_bipush d_M_go_17 ?_
    refine g_iload_n d_M_go_19 rfl ?_
    refine g_iadd d_M_go_20 ?_
    refine g_guard (fun hb3 => ?_)
    refine g_ild d_M_go_21 rfl hb3 rfl ?_
    refine g_istore_n d_M_go_22 (by decide) ?_
    refine g_iload_n d_M_go_23 rfl ?_
    refine g_iconst d_M_go_24 ?_
    refine s_icmp_ne d_M_go_25 (fun u5 => ?_) (fun u5 => ?_)
    · refine g_aload_n d_M_go_34 rfl ?_
      refine g_iload_n d_M_go_35 rfl ?_
      refine g_callV1B d_M_go_36 ml_M_114 vk_M_canDo rfl ⟨_, rfl, rfl⟩ rfl (Nat.le_of_ble_eq_true rfl) (w_M_canDo (X := X) (d := d + 1) _ _) (fun q6 => ?_)
      refine s_if_ne d_M_go_39 (fun u7 => ?_) (fun u7 => ?_)
      · refine g_aload_n d_M_go_48 rfl ?_
        refine g_getR d_M_go_49 fl_M_7 rfl rfl ?_
        refine g_iconst d_M_go_52 ?_
        refine g_ild d_M_go_53 rfl il_0_92.1 il_0_92.2 ?_
        refine g_istore_n d_M_go_54 (by decide) ?_
        refine g_aload_n d_M_go_55 rfl ?_
        refine g_iload_n d_M_go_56 rfl ?_
        refine g_callV1V d_M_go_57 ml_M_117 vk_M_does rfl ⟨_, rfl, rfl⟩ rfl (Nat.le_of_ble_eq_true rfl) (w_M_does (X := X) (d := d) _ _) (fun q8 => ?_)
        refine g_aload_n d_M_go_60 rfl ?_
        refine g_getR d_M_go_61 fl_M_7 rfl rfl ?_
        refine g_iconst d_M_go_64 ?_
        refine g_ild d_M_go_65 rfl il_0_92.1 il_0_92.2 ?_
        refine g_iload_n d_M_go_66 rfl ?_
        refine g_isub d_M_go_67 ?_
        exact g_ireturn d_M_go_68 rfl rfl rfl
      · refine g_aload_n d_M_go_42 rfl ?_
        refine g_iconst d_M_go_43 ?_
        refine g_callV1I d_M_go_44 ml_M_61 vk_M_finding rfl ⟨_, rfl, rfl⟩ rfl (Nat.le_of_ble_eq_true rfl) (w_M_finding (X := X) (d := d + 4) _ _) (fun q9 => ?_)
        exact g_ireturn d_M_go_47 rfl rfl rfl
    · refine g_aload_n d_M_go_28 rfl ?_
      refine g_iconst d_M_go_29 ?_
      refine g_callV1I d_M_go_30 ml_M_61 vk_M_finding rfl ⟨_, rfl, rfl⟩ rfl (Nat.le_of_ble_eq_true rfl) (w_M_finding (X := X) (d := d + 4) _ _) (fun q10 => ?_)
      exact g_ireturn d_M_go_33 rfl rfl rfl
  · refine g_aload_n d_M_go_7 rfl ?_
    refine g_iconst d_M_go_8 ?_
    refine g_callV1I d_M_go_9 ml_M_61 vk_M_finding rfl ⟨_, rfl, rfl⟩ rfl (Nat.le_of_ble_eq_true rfl) (w_M_finding (X := X) (d := d + 4) _ _) (fun q11 => ?_)
    exact g_ireturn d_M_go_12 rfl rfl rfl
def f_M_lay_L2 (r r1 : Nat) : Nat → Int32 → St → Option (St)
  | 0, _, _ => none
  | n + 1, y2, S => (if 92 ≤ y2 then some S else (if inb y2 92 = true then let S3 := put S r1 (y2).toNatClampNeg (S r (y2).toNatClampNeg); f_M_lay_L2 r r1  n (y2 + 1) S3 else none))
set_option maxRecDepth 4000 in
theorem w_M_lay_L2 {X : xC} {d : Nat} {r r1 : Nat} (hr : lay[r]? = some (.inl 92)) (hr1 : lay[r1]? = some (.inl 92))  : ∀ (n : Nat) (y2 : Int32) (S : St), SemG eV X k_M_lay (d) 2 [some (.ref (xB X + r)), some (.ref (xB X + r1)), some (.int y2)] [] S (f_M_lay_L2 r r1  n y2 S) := by
  intro n
  induction n with
  | zero => intro _ _; exact g_none
  | succ n ih =>
    intro y2 S
    unfold f_M_lay_L2
    refine g_iload_n d_M_lay_2 rfl ?_
    refine g_bipush d_M_lay_3 ?_
    refine s_icmp_ge d_M_lay_5 (fun u1 => ?_) (fun u1 => ?_)
    · exact g_return d_M_lay_20 rfl rfl
    · refine g_aload_n d_M_lay_8 rfl ?_
      refine g_iload_n d_M_lay_9 rfl ?_
      refine g_aload_n d_M_lay_10 rfl ?_
      refine g_iload_n d_M_lay_11 rfl ?_
      refine g_guard (fun hb2 => ?_)
      refine g_ild d_M_lay_12 hr hb2 rfl ?_
      refine g_ist d_M_lay_13 hr1 hb2 rfl ?_
      refine g_iinc d_M_lay_14 (by decide) rfl ?_
      refine g_goto d_M_lay_17 ?_
      exact ih _ _
def f_M_lay (r r1 : Nat) (S : St) : Option (St) := f_M_lay_L2 r r1  200 0 S
set_option maxRecDepth 4000 in
theorem w_M_lay {X : xC} {d : Nat} {r r1 : Nat} (hr : lay[r]? = some (.inl 92)) (hr1 : lay[r1]? = some (.inl 92)) (S : St) : SemG eV X k_M_lay (d) 0 [some (.ref (xB X + r)), some (.ref (xB X + r1)), none] [] S (f_M_lay r r1  S) := by
  unfold f_M_lay
  refine g_iconst d_M_lay_0 ?_
  refine g_istore_n d_M_lay_1 (by decide) ?_
  exact w_M_lay_L2 (X := X) (d := d) hr hr1 200 _ _
def f_M_begin (S : St) : Option (St) := ((f_M_lay 47 49 S).bind fun q1 => some q1)
set_option maxRecDepth 4000 in
theorem w_M_begin {X : xC} {d : Nat}  (S : St) : SemG eV X k_M_begin (d + 1) 0 [some (.ref (xB X + 46))] [] S (f_M_begin   S) := by
  unfold f_M_begin
  refine g_aload_n d_M_begin_0 rfl ?_
  refine g_getR d_M_begin_1 fl_M_7 rfl rfl ?_
  refine g_aload_n d_M_begin_4 rfl ?_
  refine g_getR d_M_begin_5 fl_M_16 rfl rfl ?_
  refine g_callS2V d_M_begin_8 ml_M_41 sk_M_lay rfl rfl (Nat.le_of_ble_eq_true rfl) (w_M_lay (X := X) (d := d) rfl rfl _) (fun q1 => ?_)
  exact g_return d_M_begin_11 rfl rfl
def f_M_layBack (S : St) : Option (St) := ((f_M_lay 49 47 S).bind fun q1 => some q1)
set_option maxRecDepth 4000 in
theorem w_M_layBack {X : xC} {d : Nat}  (S : St) : SemG eV X k_M_layBack (d + 1) 0 [some (.ref (xB X + 46))] [] S (f_M_layBack   S) := by
  unfold f_M_layBack
  refine g_aload_n d_M_layBack_0 rfl ?_
  refine g_getR d_M_layBack_1 fl_M_16 rfl rfl ?_
  refine g_aload_n d_M_layBack_4 rfl ?_
  refine g_getR d_M_layBack_5 fl_M_7 rfl rfl ?_
  refine g_callS2V d_M_layBack_8 ml_M_41 sk_M_lay rfl rfl (Nat.le_of_ble_eq_true rfl) (w_M_lay (X := X) (d := d) rfl rfl _) (fun q1 => ?_)
  exact g_return d_M_layBack_11 rfl rfl
def f_M_became (p1 : Int32) (S : St) : Option (Int32 × St) := let x4 : Int32 := (if p1 = 0 then ((S 47 0) - (S 49 0)) else (if p1 = 1 then ((S 47 7) - (S 49 7)) else (if p1 = 2 then ((S 47 8) - (S 49 8)) else (S 47 1)))); ((f_M_layBack S).bind fun q5 => some (x4, q5))
set_option maxRecDepth 4000 in
theorem w_M_became {X : xC} {d : Nat}  (p1 : Int32) (S : St) : SemG eI X k_M_became (d + 2) 0 [some (.ref (xB X + 46)), some (.int p1), none] [] S (f_M_became  p1 S) := by
  unfold f_M_became
  refine g_iload_n d_M_became_0 rfl ?_
  refine m_if_ne d_M_became_1 (fun hJ3 => g_iload_n d_M_became_20 rfl (g_iconst d_M_became_21 (m_icmp_ne d_M_became_22 (fun hJ2 => g_iload_n d_M_became_43 rfl (g_iconst d_M_became_44 (m_icmp_ne d_M_became_45 (fun hJ1 => g_aload_n d_M_became_66 rfl (g_getR d_M_became_67 fl_M_7 rfl rfl (g_iconst d_M_became_70 (g_ild d_M_became_71 rfl il_1_92.1 il_1_92.2 hJ1)))) (fun hJ1 => g_aload_n d_M_became_48 rfl (g_getR d_M_became_49 fl_M_7 rfl rfl (g_bipush d_M_became_52 (g_ild d_M_became_54 rfl il_8_92.1 il_8_92.2 (g_aload_n d_M_became_55 rfl (g_getR d_M_became_56 fl_M_16 rfl rfl (g_bipush d_M_became_59 (g_ild d_M_became_61 rfl il_8_92.1 il_8_92.2 (g_isub d_M_became_62 (g_goto d_M_became_63 hJ1)))))))))) hJ2))) (fun hJ2 => g_aload_n d_M_became_25 rfl (g_getR d_M_became_26 fl_M_7 rfl rfl (g_bipush d_M_became_29 (g_ild d_M_became_31 rfl il_7_92.1 il_7_92.2 (g_aload_n d_M_became_32 rfl (g_getR d_M_became_33 fl_M_16 rfl rfl (g_bipush d_M_became_36 (g_ild d_M_became_38 rfl il_7_92.1 il_7_92.2 (g_isub d_M_became_39 (g_goto d_M_became_40 hJ2)))))))))) hJ3))) (fun hJ3 => g_aload_n d_M_became_4 rfl (g_getR d_M_became_5 fl_M_7 rfl rfl (g_iconst d_M_became_8 (g_ild d_M_became_9 rfl il_0_92.1 il_0_92.2 (g_aload_n d_M_became_10 rfl (g_getR d_M_became_11 fl_M_16 rfl rfl (g_iconst d_M_became_14 (g_ild d_M_became_15 rfl il_0_92.1 il_0_92.2 (g_isub d_M_became_16 (g_goto d_M_became_17 hJ3)))))))))) ?_
  refine g_istore_n d_M_became_72 (by decide) ?_
  refine g_aload_n d_M_became_73 rfl ?_
  refine g_callV0V d_M_became_74 ml_M_121 vk_M_layBack rfl ⟨_, rfl, rfl⟩ (Nat.le_of_ble_eq_true rfl) (w_M_layBack (X := X) (d := d) _) (fun q5 => ?_)
  refine g_iload_n d_M_became_77 rfl ?_
  exact g_ireturn d_M_became_78 rfl rfl rfl
def f_M_gives (p1 p2 : Int32) (S : St) : Option (Int32 × St) := ((f_M_isSlot p1 S).bind fun q1 => (if (bI q1.1) = 0 then ((f_M_finding 0 q1.2).bind fun q3 => some (q3.1, q3.2)) else ((f_M_in p2 0 3 q1.2).bind fun q4 => (if (bI q4.1) = 0 then ((f_M_finding 0 q4.2).bind fun q16 => some (q16.1, q16.2)) else (if inb (52 + p1) 92 = true then let x7 : Int32 := (q4.2 47 ((52 + p1)).toNatClampNeg); (if x7 = (-1) then ((f_M_finding 3 q4.2).bind fun q15 => some (q15.1, q15.2)) else ((f_M_canDo x7 q4.2).bind fun q9 => (if (bI q9.1) = 0 then ((f_M_finding 4 q9.2).bind fun q14 => some (q14.1, q14.2)) else ((f_M_begin q9.2).bind fun q11 => ((f_M_does x7 q11).bind fun q12 => ((f_M_became p2 q12).bind fun q13 => some (q13.1, q13.2))))))) else none)))))
set_option maxRecDepth 4000 in
theorem w_M_gives {X : xC} {d : Nat}  (p1 p2 : Int32) (S : St) : SemG eI X k_M_gives (d + 5) 0 [some (.ref (xB X + 46)), some (.int p1), some (.int p2), none] [] S (f_M_gives  p1 p2 S) := by
  unfold f_M_gives
  refine g_iload_n d_M_gives_0 rfl ?_
  refine g_callS1B d_M_gives_1 ml_M_108 sk_M_isSlot rfl (Nat.le_of_ble_eq_true rfl) (w_M_isSlot (X := X) (d := d + 3) _ _) (fun q1 => ?_)
  refine s_if_eq d_M_gives_4 (fun u2 => ?_) (fun u2 => ?_)
  · refine g_aload_n d_M_gives_16 rfl ?_
    refine g_iconst d_M_gives_17 ?_
    refine g_callV1I d_M_gives_18 ml_M_61 vk_M_finding rfl ⟨_, rfl, rfl⟩ rfl (Nat.le_of_ble_eq_true rfl) (w_M_finding (X := X) (d := d + 4) _ _) (fun q3 => ?_)
    exact g_ireturn d_M_gives_21 rfl rfl rfl
  · refine g_iload_n d_M_gives_7 rfl ?_
    refine g_iconst d_M_gives_8 ?_
    refine g_iconst d_M_gives_9 ?_
    refine g_callS3B d_M_gives_10 ml_M_45 sk_M_in rfl rfl rfl (Nat.le_of_ble_eq_true rfl) (w_M_in (X := X) (d := d + 4) _ _ _ _) (fun q4 => ?_)
    refine s_if_ne d_M_gives_13 (fun u5 => ?_) (fun u5 => ?_)
    · refine g_aload_n d_M_gives_22 rfl ?_
      refine g_getR d_M_gives_23 fl_M_7 rfl rfl ?_
      refine g_bipush d_M_gives_26 ?_
      refine g_iload_n d_M_gives_28 rfl ?_
      refine g_iadd d_M_gives_29 ?_
      refine g_guard (fun hb6 => ?_)
      refine g_ild d_M_gives_30 rfl hb6 rfl ?_
      refine g_istore_n d_M_gives_31 (by decide) ?_
      refine g_iload_n d_M_gives_32 rfl ?_
      refine g_iconst d_M_gives_33 ?_
      refine s_icmp_ne d_M_gives_34 (fun u8 => ?_) (fun u8 => ?_)
      · refine g_aload_n d_M_gives_43 rfl ?_
        refine g_iload_n d_M_gives_44 rfl ?_
        refine g_callV1B d_M_gives_45 ml_M_114 vk_M_canDo rfl ⟨_, rfl, rfl⟩ rfl (Nat.le_of_ble_eq_true rfl) (w_M_canDo (X := X) (d := d + 1) _ _) (fun q9 => ?_)
        refine s_if_ne d_M_gives_48 (fun u10 => ?_) (fun u10 => ?_)
        · refine g_aload_n d_M_gives_57 rfl ?_
          refine g_callV0V d_M_gives_58 ml_M_124 vk_M_begin rfl ⟨_, rfl, rfl⟩ (Nat.le_of_ble_eq_true rfl) (w_M_begin (X := X) (d := d + 3) _) (fun q11 => ?_)
          refine g_aload_n d_M_gives_61 rfl ?_
          refine g_iload_n d_M_gives_62 rfl ?_
          refine g_callV1V d_M_gives_63 ml_M_117 vk_M_does rfl ⟨_, rfl, rfl⟩ rfl (Nat.le_of_ble_eq_true rfl) (w_M_does (X := X) (d := d) _ _) (fun q12 => ?_)
          refine g_aload_n d_M_gives_66 rfl ?_
          refine g_iload_n d_M_gives_67 rfl ?_
          refine g_callV1I d_M_gives_68 ml_M_127 vk_M_became rfl ⟨_, rfl, rfl⟩ rfl (Nat.le_of_ble_eq_true rfl) (w_M_became (X := X) (d := d + 2) _ _) (fun q13 => ?_)
          exact g_ireturn d_M_gives_71 rfl rfl rfl
        · refine g_aload_n d_M_gives_51 rfl ?_
          refine g_iconst d_M_gives_52 ?_
          refine g_callV1I d_M_gives_53 ml_M_61 vk_M_finding rfl ⟨_, rfl, rfl⟩ rfl (Nat.le_of_ble_eq_true rfl) (w_M_finding (X := X) (d := d + 4) _ _) (fun q14 => ?_)
          exact g_ireturn d_M_gives_56 rfl rfl rfl
      · refine g_aload_n d_M_gives_37 rfl ?_
        refine g_iconst d_M_gives_38 ?_
        refine g_callV1I d_M_gives_39 ml_M_61 vk_M_finding rfl ⟨_, rfl, rfl⟩ rfl (Nat.le_of_ble_eq_true rfl) (w_M_finding (X := X) (d := d + 4) _ _) (fun q15 => ?_)
        exact g_ireturn d_M_gives_42 rfl rfl rfl
    · refine g_aload_n d_M_gives_16 rfl ?_
      refine g_iconst d_M_gives_17 ?_
      refine g_callV1I d_M_gives_18 ml_M_61 vk_M_finding rfl ⟨_, rfl, rfl⟩ rfl (Nat.le_of_ble_eq_true rfl) (w_M_finding (X := X) (d := d + 4) _ _) (fun q16 => ?_)
      exact g_ireturn d_M_gives_21 rfl rfl rfl
def f_M_again_L2 : Nat → Int32 → Int32 → Int32 → St → Option (Int32 × St)
  | 0, _, _, _, _ => none
  | n + 1, y1, y2, y3, S => (if y2 ≤ y3 then some (y3, S) else ((f_M_canDo y1 S).bind fun q2 => (if (bI q2.1) = 0 then some (y3, q2.2) else ((f_M_does y1 q2.2).bind fun q4 => f_M_again_L2   n y1 y2 (y3 + 1) q4))))
set_option maxRecDepth 4000 in
theorem w_M_again_L2 {X : xC} {d : Nat}   : ∀ (n : Nat) (y1 : Int32) (y2 : Int32) (y3 : Int32) (S : St), SemG eI X k_M_again (d + 5) 2 [some (.ref (xB X + 46)), some (.int y1), some (.int y2), some (.int y3)] [] S (f_M_again_L2   n y1 y2 y3 S) := by
  intro n
  induction n with
  | zero => intro _ _ _ _; exact g_none
  | succ n ih =>
    intro y1 y2 y3 S
    unfold f_M_again_L2
    refine g_iload_n d_M_again_2 rfl ?_
    refine g_iload_n d_M_again_3 rfl ?_
    refine s_icmp_ge d_M_again_4 (fun u1 => ?_) (fun u1 => ?_)
    · refine g_iload_n d_M_again_26 rfl ?_
      exact g_ireturn d_M_again_27 rfl rfl rfl
    · refine g_aload_n d_M_again_7 rfl ?_
      refine g_iload_n d_M_again_8 rfl ?_
      refine g_callV1B d_M_again_9 ml_M_114 vk_M_canDo rfl ⟨_, rfl, rfl⟩ rfl (Nat.le_of_ble_eq_true rfl) (w_M_canDo (X := X) (d := d + 1) _ _) (fun q2 => ?_)
      refine s_if_eq d_M_again_12 (fun u3 => ?_) (fun u3 => ?_)
      · refine g_iload_n d_M_again_26 rfl ?_
        exact g_ireturn d_M_again_27 rfl rfl rfl
      · refine g_aload_n d_M_again_15 rfl ?_
        refine g_iload_n d_M_again_16 rfl ?_
        refine g_callV1V d_M_again_17 ml_M_117 vk_M_does rfl ⟨_, rfl, rfl⟩ rfl (Nat.le_of_ble_eq_true rfl) (w_M_does (X := X) (d := d) _ _) (fun q4 => ?_)
        refine g_iinc d_M_again_20 (by decide) rfl ?_
        refine g_goto d_M_again_23 ?_
        exact ih _ _ _ _
def f_M_again (p1 p2 : Int32) (S : St) : Option (Int32 × St) := f_M_again_L2   200 p1 p2 0 S
set_option maxRecDepth 4000 in
theorem w_M_again {X : xC} {d : Nat}  (p1 p2 : Int32) (S : St) : SemG eI X k_M_again (d + 5) 0 [some (.ref (xB X + 46)), some (.int p1), some (.int p2), none] [] S (f_M_again  p1 p2 S) := by
  unfold f_M_again
  refine g_iconst d_M_again_0 ?_
  refine g_istore_n d_M_again_1 (by decide) ?_
  exact w_M_again_L2 (X := X) (d := d) 200 _ _ _ _
def f_M_lasts (p1 : Int32) (S : St) : Option (Int32 × St) := ((f_M_isSlot p1 S).bind fun q1 => (if (bI q1.1) = 0 then ((f_M_finding 0 q1.2).bind fun q9 => some (q9.1, q9.2)) else (if inb (52 + p1) 92 = true then (if (q1.2 47 ((52 + p1)).toNatClampNeg) = (-1) then ((f_M_finding 3 q1.2).bind fun q8 => some (q8.1, q8.2)) else ((f_M_begin q1.2).bind fun q5 => ((f_M_again (q5 47 ((52 + p1)).toNatClampNeg) 50 q5).bind fun q6 => ((f_M_layBack q6.2).bind fun q7 => some (q6.1, q7))))) else none)))
set_option maxRecDepth 4000 in
theorem w_M_lasts {X : xC} {d : Nat}  (p1 : Int32) (S : St) : SemG eI X k_M_lasts (d + 6) 0 [some (.ref (xB X + 46)), some (.int p1), none] [] S (f_M_lasts  p1 S) := by
  unfold f_M_lasts
  refine g_iload_n d_M_lasts_0 rfl ?_
  refine g_callS1B d_M_lasts_1 ml_M_108 sk_M_isSlot rfl (Nat.le_of_ble_eq_true rfl) (w_M_isSlot (X := X) (d := d + 4) _ _) (fun q1 => ?_)
  refine s_if_ne d_M_lasts_4 (fun u2 => ?_) (fun u2 => ?_)
  · refine g_aload_n d_M_lasts_13 rfl ?_
    refine g_getR d_M_lasts_14 fl_M_7 rfl rfl ?_
    refine g_bipush d_M_lasts_17 ?_
    refine g_iload_n d_M_lasts_19 rfl ?_
    refine g_iadd d_M_lasts_20 ?_
    refine g_guard (fun hb3 => ?_)
    refine g_ild d_M_lasts_21 rfl hb3 rfl ?_
    refine g_iconst d_M_lasts_22 ?_
    refine s_icmp_ne d_M_lasts_23 (fun u4 => ?_) (fun u4 => ?_)
    · refine g_aload_n d_M_lasts_32 rfl ?_
      refine g_callV0V d_M_lasts_33 ml_M_124 vk_M_begin rfl ⟨_, rfl, rfl⟩ (Nat.le_of_ble_eq_true rfl) (w_M_begin (X := X) (d := d + 4) _) (fun q5 => ?_)
      refine g_aload_n d_M_lasts_36 rfl ?_
      refine g_aload_n d_M_lasts_37 rfl ?_
      refine g_getR d_M_lasts_38 fl_M_7 rfl rfl ?_
      refine g_bipush d_M_lasts_41 ?_
      refine g_iload_n d_M_lasts_43 rfl ?_
      refine g_iadd d_M_lasts_44 ?_
      refine g_ild d_M_lasts_45 rfl hb3 rfl ?_
      refine g_bipush d_M_lasts_46 ?_
      refine g_callV2I d_M_lasts_48 ml_M_130 vk_M_again rfl ⟨_, rfl, rfl⟩ rfl rfl (Nat.le_of_ble_eq_true rfl) (w_M_again (X := X) (d := d) _ _ _) (fun q6 => ?_)
      refine g_istore_n d_M_lasts_51 (by decide) ?_
      refine g_aload_n d_M_lasts_52 rfl ?_
      refine g_callV0V d_M_lasts_53 ml_M_121 vk_M_layBack rfl ⟨_, rfl, rfl⟩ (Nat.le_of_ble_eq_true rfl) (w_M_layBack (X := X) (d := d + 4) _) (fun q7 => ?_)
      refine g_iload_n d_M_lasts_56 rfl ?_
      exact g_ireturn d_M_lasts_57 rfl rfl rfl
    · refine g_aload_n d_M_lasts_26 rfl ?_
      refine g_iconst d_M_lasts_27 ?_
      refine g_callV1I d_M_lasts_28 ml_M_61 vk_M_finding rfl ⟨_, rfl, rfl⟩ rfl (Nat.le_of_ble_eq_true rfl) (w_M_finding (X := X) (d := d + 5) _ _) (fun q8 => ?_)
      exact g_ireturn d_M_lasts_31 rfl rfl rfl
  · refine g_aload_n d_M_lasts_7 rfl ?_
    refine g_iconst d_M_lasts_8 ?_
    refine g_callV1I d_M_lasts_9 ml_M_61 vk_M_finding rfl ⟨_, rfl, rfl⟩ rfl (Nat.le_of_ble_eq_true rfl) (w_M_finding (X := X) (d := d + 5) _ _) (fun q9 => ?_)
    exact g_ireturn d_M_lasts_12 rfl rfl rfl
def f_M_outBy (p1 p2 : Int32) (S : St) : Option (Int32 × St) := ((f_M_begin S).bind fun q1 => ((f_M_again p1 p2 q1).bind fun q2 => ((f_M_isOut q2.2).bind fun q3 => let x5 : Int32 := (if (bI q3.1) = 0 then (-1) else q2.1); ((f_M_layBack q3.2).bind fun q6 => some (x5, q6)))))
set_option maxRecDepth 4000 in
theorem w_M_outBy {X : xC} {d : Nat}  (p1 p2 : Int32) (S : St) : SemG eI X k_M_outBy (d + 6) 0 [some (.ref (xB X + 46)), some (.int p1), some (.int p2), none] [] S (f_M_outBy  p1 p2 S) := by
  unfold f_M_outBy
  refine g_aload_n d_M_outBy_0 rfl ?_
  refine g_callV0V d_M_outBy_1 ml_M_124 vk_M_begin rfl ⟨_, rfl, rfl⟩ (Nat.le_of_ble_eq_true rfl) (w_M_begin (X := X) (d := d + 4) _) (fun q1 => ?_)
  refine g_aload_n d_M_outBy_4 rfl ?_
  refine g_iload_n d_M_outBy_5 rfl ?_
  refine g_iload_n d_M_outBy_6 rfl ?_
  refine g_callV2I d_M_outBy_7 ml_M_130 vk_M_again rfl ⟨_, rfl, rfl⟩ rfl rfl (Nat.le_of_ble_eq_true rfl) (w_M_again (X := X) (d := d) _ _ _) (fun q2 => ?_)
  refine g_istore_n d_M_outBy_10 (by decide) ?_
  refine g_aload_n d_M_outBy_11 rfl ?_
  refine g_callV0B d_M_outBy_12 ml_M_81 vk_M_isOut rfl ⟨_, rfl, rfl⟩ (Nat.le_of_ble_eq_true rfl) (w_M_isOut (X := X) (d := d + 3) _) (fun q3 => ?_)
  refine m_if_eq d_M_outBy_15 (fun hJ4 => g_iconst d_M_outBy_22 hJ4) (fun hJ4 => g_iload_n d_M_outBy_18 rfl (g_goto d_M_outBy_19 hJ4)) ?_
  refine g_istore_n d_M_outBy_23 (by decide) ?_
  refine g_aload_n d_M_outBy_24 rfl ?_
  refine g_callV0V d_M_outBy_25 ml_M_121 vk_M_layBack rfl ⟨_, rfl, rfl⟩ (Nat.le_of_ble_eq_true rfl) (w_M_layBack (X := X) (d := d + 4) _) (fun q6 => ?_)
  refine g_iload_n d_M_outBy_28 rfl ?_
  exact g_ireturn d_M_outBy_29 rfl rfl rfl
def f_M_out (p1 : Int32) (S : St) : Option (Int32 × St) := ((f_M_isSlot p1 S).bind fun q1 => (if (bI q1.1) = 0 then ((f_M_finding 0 q1.2).bind fun q9 => some (q9.1, q9.2)) else (if inb (52 + p1) 92 = true then (if (q1.2 47 ((52 + p1)).toNatClampNeg) = (-1) then ((f_M_finding 3 q1.2).bind fun q8 => some (q8.1, q8.2)) else ((f_M_outBy (q1.2 47 ((52 + p1)).toNatClampNeg) 50 q1.2).bind fun q5 => (if 0 ≤ q5.1 then some (q5.1, q5.2) else ((f_M_finding 3 q5.2).bind fun q7 => some (q7.1, q7.2))))) else none)))
set_option maxRecDepth 4000 in
theorem w_M_out {X : xC} {d : Nat}  (p1 : Int32) (S : St) : SemG eI X k_M_out (d + 7) 0 [some (.ref (xB X + 46)), some (.int p1), none] [] S (f_M_out  p1 S) := by
  unfold f_M_out
  refine g_iload_n d_M_out_0 rfl ?_
  refine g_callS1B d_M_out_1 ml_M_108 sk_M_isSlot rfl (Nat.le_of_ble_eq_true rfl) (w_M_isSlot (X := X) (d := d + 5) _ _) (fun q1 => ?_)
  refine s_if_ne d_M_out_4 (fun u2 => ?_) (fun u2 => ?_)
  · refine g_aload_n d_M_out_13 rfl ?_
    refine g_getR d_M_out_14 fl_M_7 rfl rfl ?_
    refine g_bipush d_M_out_17 ?_
    refine g_iload_n d_M_out_19 rfl ?_
    refine g_iadd d_M_out_20 ?_
    refine g_guard (fun hb3 => ?_)
    refine g_ild d_M_out_21 rfl hb3 rfl ?_
    refine g_iconst d_M_out_22 ?_
    refine s_icmp_ne d_M_out_23 (fun u4 => ?_) (fun u4 => ?_)
    · refine g_aload_n d_M_out_32 rfl ?_
      refine g_aload_n d_M_out_33 rfl ?_
      refine g_getR d_M_out_34 fl_M_7 rfl rfl ?_
      refine g_bipush d_M_out_37 ?_
      refine g_iload_n d_M_out_39 rfl ?_
      refine g_iadd d_M_out_40 ?_
      refine g_ild d_M_out_41 rfl hb3 rfl ?_
      refine g_bipush d_M_out_42 ?_
      refine g_callV2I d_M_out_44 ml_M_133 vk_M_outBy rfl ⟨_, rfl, rfl⟩ rfl rfl (Nat.le_of_ble_eq_true rfl) (w_M_outBy (X := X) (d := d) _ _ _) (fun q5 => ?_)
      refine g_istore_n d_M_out_47 (by decide) ?_
      refine g_iload_n d_M_out_48 rfl ?_
      refine s_if_ge d_M_out_49 (fun u6 => ?_) (fun u6 => ?_)
      · refine g_iload_n d_M_out_60 rfl ?_
        exact g_ireturn d_M_out_61 rfl rfl rfl
      · refine g_aload_n d_M_out_52 rfl ?_
        refine g_iconst d_M_out_53 ?_
        refine g_callV1I d_M_out_54 ml_M_61 vk_M_finding rfl ⟨_, rfl, rfl⟩ rfl (Nat.le_of_ble_eq_true rfl) (w_M_finding (X := X) (d := d + 6) _ _) (fun q7 => ?_)
        refine g_goto d_M_out_57 ?_
        exact g_ireturn d_M_out_61 rfl rfl rfl
    · refine g_aload_n d_M_out_26 rfl ?_
      refine g_iconst d_M_out_27 ?_
      refine g_callV1I d_M_out_28 ml_M_61 vk_M_finding rfl ⟨_, rfl, rfl⟩ rfl (Nat.le_of_ble_eq_true rfl) (w_M_finding (X := X) (d := d + 6) _ _) (fun q8 => ?_)
      exact g_ireturn d_M_out_31 rfl rfl rfl
  · refine g_aload_n d_M_out_7 rfl ?_
    refine g_iconst d_M_out_8 ?_
    refine g_callV1I d_M_out_9 ml_M_61 vk_M_finding rfl ⟨_, rfl, rfl⟩ rfl (Nat.le_of_ble_eq_true rfl) (w_M_finding (X := X) (d := d + 6) _ _) (fun q9 => ?_)
    exact g_ireturn d_M_out_12 rfl rfl rfl
def f_M_when_L31 : Nat → Int32 → Int32 → Int32 → Int32 → Int32 → St → Option (Int32 × St)
  | 0, _, _, _, _, _, _ => none
  | n + 1, y1, y2, y3, y4, y5, S => (if 24 ≤ y5 then (if 0 ≤ y3 then some (y3, S) else ((f_M_finding 3 S).bind fun q7 => some (q7.1, q7.2))) else (if y2 = (-1) then (if 0 ≤ y3 then some (y3, S) else ((f_M_finding 3 S).bind fun q10 => some (q10.1, q10.2))) else ((f_M_begin S).bind fun q11 => let x13 : Int32 := (if y5 = 0 then (q11 47 7) else ((((q11 47 7) / 60) + y5) * 60)); let S14 := put q11 47 7 x13; ((f_M_canDo y2 S14).bind fun q15 => (if (bI q15.1) = 0 then ((f_M_layBack q15.2).bind fun q17 => f_M_when_L31   n y1 y2 y3 y4 (y5 + 1) q17) else ((f_M_hour q15.2).bind fun q18 => ((f_M_does y2 q18.2).bind fun q19 => let x20 : Int32 := ((q19 47 0) - (q19 49 0)); (if y3 < 0 then ((f_M_layBack q19).bind fun q22 => f_M_when_L31   n y1 y2 q18.1 x20 (y5 + 1) q22) else (if x20 ≤ y4 then ((f_M_layBack q19).bind fun q24 => f_M_when_L31   n y1 y2 y3 y4 (y5 + 1) q24) else ((f_M_layBack q19).bind fun q25 => f_M_when_L31   n y1 y2 q18.1 x20 (y5 + 1) q25))))))))))
set_option maxRecDepth 4000 in
theorem w_M_when_L31 {X : xC} {d : Nat}   : ∀ (n : Nat) (y1 : Int32) (y2 : Int32) (y3 : Int32) (y4 : Int32) (y5 : Int32) (S : St), SemG eI X k_M_when (d + 5) 31 [some (.ref (xB X + 46)), some (.int y1), some (.int y2), some (.int y3), some (.int y4), some (.int y5), none, none] [] S (f_M_when_L31   n y1 y2 y3 y4 y5 S) := by
  intro n
  induction n with
  | zero => intro _ _ _ _ _ _; exact g_none
  | succ n ih =>
    intro y1 y2 y3 y4 y5 S
    unfold f_M_when_L31
    refine g_iload d_M_when_31 rfl ?_
    refine g_bipush d_M_when_33 ?_
    refine s_icmp_ge d_M_when_35 (fun u5 => ?_) (fun u5 => ?_)
    · refine g_iload_n d_M_when_147 rfl ?_
      refine s_if_ge d_M_when_148 (fun u6 => ?_) (fun u6 => ?_)
      · refine g_iload_n d_M_when_159 rfl ?_
        exact g_ireturn d_M_when_160 rfl rfl rfl
      · refine g_aload_n d_M_when_151 rfl ?_
        refine g_iconst d_M_when_152 ?_
        refine g_callV1I d_M_when_153 ml_M_61 vk_M_finding rfl ⟨_, rfl, rfl⟩ rfl (Nat.le_of_ble_eq_true rfl) (w_M_finding (X := X) (d := d + 4) _ _) (fun q7 => ?_)
        refine g_goto d_M_when_156 ?_
        exact g_ireturn d_M_when_160 rfl rfl rfl
    · refine g_iload_n d_M_when_38 rfl ?_
      refine g_iconst d_M_when_39 ?_
      refine s_icmp_eq d_M_when_40 (fun u8 => ?_) (fun u8 => ?_)
      · refine g_iload_n d_M_when_147 rfl ?_
        refine s_if_ge d_M_when_148 (fun u9 => ?_) (fun u9 => ?_)
        · refine g_iload_n d_M_when_159 rfl ?_
          exact g_ireturn d_M_when_160 rfl rfl rfl
        · refine g_aload_n d_M_when_151 rfl ?_
          refine g_iconst d_M_when_152 ?_
          refine g_callV1I d_M_when_153 ml_M_61 vk_M_finding rfl ⟨_, rfl, rfl⟩ rfl (Nat.le_of_ble_eq_true rfl) (w_M_finding (X := X) (d := d + 4) _ _) (fun q10 => ?_)
          refine g_goto d_M_when_156 ?_
          exact g_ireturn d_M_when_160 rfl rfl rfl
      · refine g_aload_n d_M_when_43 rfl ?_
        refine g_callV0V d_M_when_44 ml_M_124 vk_M_begin rfl ⟨_, rfl, rfl⟩ (Nat.le_of_ble_eq_true rfl) (w_M_begin (X := X) (d := d + 3) _) (fun q11 => ?_)
        refine g_aload_n d_M_when_47 rfl ?_
        refine g_getR d_M_when_48 fl_M_7 rfl rfl ?_
        refine g_bipush d_M_when_51 ?_
        refine g_iload d_M_when_53 rfl ?_
        refine m_if_ne d_M_when_55 (fun hJ12 => g_aload_n d_M_when_68 rfl (g_getR d_M_when_69 fl_M_7 rfl rfl (g_bipush d_M_when_72 (g_ild d_M_when_74 rfl il_7_92.1 il_7_92.2 (g_bipush d_M_when_75 (g_idiv d_M_when_77 (by decide) (g_iload d_M_when_78 rfl (g_iadd d_M_when_80 (g_bipush d_M_when_81 (g_imul d_M_when_83 hJ12)))))))))) (fun hJ12 => g_aload_n d_M_when_58 rfl (g_getR d_M_when_59 fl_M_7 rfl rfl (g_bipush d_M_when_62 (g_ild d_M_when_64 rfl il_7_92.1 il_7_92.2 (g_goto d_M_when_65 hJ12))))) ?_
        refine g_ist d_M_when_84 rfl il_7_92.1 il_7_92.2 ?_
        refine g_aload_n d_M_when_85 rfl ?_
        refine g_iload_n d_M_when_86 rfl ?_
        refine g_callV1B d_M_when_87 ml_M_114 vk_M_canDo rfl ⟨_, rfl, rfl⟩ rfl (Nat.le_of_ble_eq_true rfl) (w_M_canDo (X := X) (d := d + 1) _ _) (fun q15 => ?_)
        refine s_if_eq d_M_when_90 (fun u16 => ?_) (fun u16 => ?_)
        · refine g_aload_n d_M_when_137 rfl ?_
          refine g_callV0V d_M_when_138 ml_M_121 vk_M_layBack rfl ⟨_, rfl, rfl⟩ (Nat.le_of_ble_eq_true rfl) (w_M_layBack (X := X) (d := d + 3) _) (fun q17 => ?_)
          refine g_iinc d_M_when_141 (by decide) rfl ?_
          refine g_goto d_M_when_144 ?_
          exact ih _ _ _ _ _ _
        · refine g_aload_n d_M_when_93 rfl ?_
          refine g_callV0I d_M_when_94 ml_M_53 vk_M_hour rfl ⟨_, rfl, rfl⟩ (Nat.le_of_ble_eq_true rfl) (w_M_hour (X := X) (d := d + 4) _) (fun q18 => ?_)
          refine g_istore d_M_when_97 (by decide) ?_
          refine g_aload_n d_M_when_99 rfl ?_
          refine g_iload_n d_M_when_100 rfl ?_
          refine g_callV1V d_M_when_101 ml_M_117 vk_M_does rfl ⟨_, rfl, rfl⟩ rfl (Nat.le_of_ble_eq_true rfl) (w_M_does (X := X) (d := d) _ _) (fun q19 => ?_)
          refine g_aload_n d_M_when_104 rfl ?_
          refine g_getR d_M_when_105 fl_M_7 rfl rfl ?_
          refine g_iconst d_M_when_108 ?_
          refine g_ild d_M_when_109 rfl il_0_92.1 il_0_92.2 ?_
          refine g_aload_n d_M_when_110 rfl ?_
          refine g_getR d_M_when_111 fl_M_16 rfl rfl ?_
          refine g_iconst d_M_when_114 ?_
          refine g_ild d_M_when_115 rfl il_0_92.1 il_0_92.2 ?_
          refine g_isub d_M_when_116 ?_
          refine g_istore d_M_when_117 (by decide) ?_
          refine g_iload_n d_M_when_119 rfl ?_
          refine s_if_lt d_M_when_120 (fun u21 => ?_) (fun u21 => ?_)
          · refine g_iload d_M_when_130 rfl ?_
            refine g_istore_n d_M_when_132 (by decide) ?_
            refine g_iload d_M_when_133 rfl ?_
            refine g_istore d_M_when_135 (by decide) ?_
            refine g_aload_n d_M_when_137 rfl ?_
            refine g_callV0V d_M_when_138 ml_M_121 vk_M_layBack rfl ⟨_, rfl, rfl⟩ (Nat.le_of_ble_eq_true rfl) (w_M_layBack (X := X) (d := d + 3) _) (fun q22 => ?_)
            refine g_iinc d_M_when_141 (by decide) rfl ?_
            refine g_goto d_M_when_144 ?_
            refine g_drop 6 ?_
            refine g_drop 7 ?_
            exact ih _ _ _ _ _ _
          · refine g_iload d_M_when_123 rfl ?_
            refine g_iload d_M_when_125 rfl ?_
            refine s_icmp_le d_M_when_127 (fun u23 => ?_) (fun u23 => ?_)
            · refine g_aload_n d_M_when_137 rfl ?_
              refine g_callV0V d_M_when_138 ml_M_121 vk_M_layBack rfl ⟨_, rfl, rfl⟩ (Nat.le_of_ble_eq_true rfl) (w_M_layBack (X := X) (d := d + 3) _) (fun q24 => ?_)
              refine g_iinc d_M_when_141 (by decide) rfl ?_
              refine g_goto d_M_when_144 ?_
              refine g_drop 6 ?_
              refine g_drop 7 ?_
              exact ih _ _ _ _ _ _
            · refine g_iload d_M_when_130 rfl ?_
              refine g_istore_n d_M_when_132 (by decide) ?_
              refine g_iload d_M_when_133 rfl ?_
              refine g_istore d_M_when_135 (by decide) ?_
              refine g_aload_n d_M_when_137 rfl ?_
              refine g_callV0V d_M_when_138 ml_M_121 vk_M_layBack rfl ⟨_, rfl, rfl⟩ (Nat.le_of_ble_eq_true rfl) (w_M_layBack (X := X) (d := d + 3) _) (fun q25 => ?_)
              refine g_iinc d_M_when_141 (by decide) rfl ?_
              refine g_goto d_M_when_144 ?_
              refine g_drop 6 ?_
              refine g_drop 7 ?_
              exact ih _ _ _ _ _ _
def f_M_when (p1 : Int32) (S : St) : Option (Int32 × St) := ((f_M_isSlot p1 S).bind fun q1 => (if (bI q1.1) = 0 then ((f_M_finding 0 q1.2).bind fun q26 => some (q26.1, q26.2)) else (if inb (52 + p1) 92 = true then let x4 : Int32 := (q1.2 47 ((52 + p1)).toNatClampNeg); f_M_when_L31   200 p1 x4 (-1) 0 0 q1.2 else none)))
set_option maxRecDepth 4000 in
theorem w_M_when {X : xC} {d : Nat}  (p1 : Int32) (S : St) : SemG eI X k_M_when (d + 5) 0 [some (.ref (xB X + 46)), some (.int p1), none, none, none, none, none, none] [] S (f_M_when  p1 S) := by
  unfold f_M_when
  refine g_iload_n d_M_when_0 rfl ?_
  refine g_callS1B d_M_when_1 ml_M_108 sk_M_isSlot rfl (Nat.le_of_ble_eq_true rfl) (w_M_isSlot (X := X) (d := d + 3) _ _) (fun q1 => ?_)
  refine s_if_ne d_M_when_4 (fun u2 => ?_) (fun u2 => ?_)
  · refine g_aload_n d_M_when_13 rfl ?_
    refine g_getR d_M_when_14 fl_M_7 rfl rfl ?_
    refine g_bipush d_M_when_17 ?_
    refine g_iload_n d_M_when_19 rfl ?_
    refine g_iadd d_M_when_20 ?_
    refine g_guard (fun hb3 => ?_)
    refine g_ild d_M_when_21 rfl hb3 rfl ?_
    refine g_istore_n d_M_when_22 (by decide) ?_
    refine g_iconst d_M_when_23 ?_
    refine g_istore_n d_M_when_24 (by decide) ?_
    refine g_iconst d_M_when_25 ?_
    refine g_istore d_M_when_26 (by decide) ?_
    refine g_iconst d_M_when_28 ?_
    refine g_istore d_M_when_29 (by decide) ?_
    exact w_M_when_L31 (X := X) (d := d) 200 _ _ _ _ _ _
  · refine g_aload_n d_M_when_7 rfl ?_
    refine g_iconst d_M_when_8 ?_
    refine g_callV1I d_M_when_9 ml_M_61 vk_M_finding rfl ⟨_, rfl, rfl⟩ rfl (Nat.le_of_ble_eq_true rfl) (w_M_finding (X := X) (d := d + 4) _ _) (fun q26 => ?_)
    exact g_ireturn d_M_when_12 rfl rfl rfl
def f_M_feed_L36 : Nat → Int32 → Int32 → Int32 → St → Option (Int32 × St)
  | 0, _, _, _, _ => none
  | n + 1, y1, y2, y3, S => (if y3 < 0 then some ((S 46 6), S) else (if inb (S 46 6) 120 = true then let S6 := put S 51 ((S 46 6)).toNatClampNeg ((y1 >>> ((8 * y3) &&& 31)) &&& 255); let S7 := put S6 46 6 ((S6 46 6) + 1); f_M_feed_L36   n y1 y2 (y3 + (-1)) S7 else none))
set_option maxRecDepth 4000 in
theorem w_M_feed_L36 {X : xC} {d : Nat}   : ∀ (n : Nat) (y1 : Int32) (y2 : Int32) (y3 : Int32) (S : St), SemG eI X k_M_feed (d + 1) 36 [some (.ref (xB X + 46)), some (.int y1), some (.int y2), some (.int y3)] [] S (f_M_feed_L36   n y1 y2 y3 S) := by
  intro n
  induction n with
  | zero => intro _ _ _ _; exact g_none
  | succ n ih =>
    intro y1 y2 y3 S
    unfold f_M_feed_L36
    refine g_iload_n d_M_feed_36 rfl ?_
    refine s_if_lt d_M_feed_37 (fun u4 => ?_) (fun u4 => ?_)
    · refine g_aload_n d_M_feed_75 rfl ?_
      refine g_getI d_M_feed_76 fl_M_136 rfl rfl ?_
      exact g_ireturn d_M_feed_79 rfl rfl rfl
    · refine g_aload_n d_M_feed_40 rfl ?_
      refine g_getR d_M_feed_41 fl_M_22 rfl rfl ?_
      refine g_aload_n d_M_feed_44 rfl ?_
      refine g_getI d_M_feed_45 fl_M_136 rfl rfl ?_
      refine g_iload_n d_M_feed_48 rfl ?_
      refine g_bipush d_M_feed_49 ?_
      refine g_iload_n d_M_feed_51 rfl ?_
      refine g_imul d_M_feed_52 ?_
      refine g_ishr d_M_feed_53 ?_
      refine g_sipush d_M_feed_54 ?_
      refine g_iand d_M_feed_57 ?_
      refine g_guard (fun hb5 => ?_)
      refine g_ist d_M_feed_58 rfl hb5 rfl ?_
      refine g_aload_n d_M_feed_59 rfl ?_
      refine g_dup d_M_feed_60 rfl ?_
      refine g_getI d_M_feed_61 fl_M_136 rfl rfl ?_
      refine g_iconst d_M_feed_64 ?_
      refine g_iadd d_M_feed_65 ?_
      refine g_putI d_M_feed_66 fl_M_136 ⟨_, rfl, rfl⟩ rfl rfl rfl rfl ?_
      refine g_iinc d_M_feed_69 (by decide) rfl ?_
      refine g_goto d_M_feed_72 ?_
      exact ih _ _ _ _
def f_M_feed (p1 p2 : Int32) (S : St) : Option (Int32 × St) := ((f_M_in p2 1 4 S).bind fun q1 => (if (bI q1.1) = 0 then ((f_M_finding 0 q1.2).bind fun q9 => some (q9.1, q9.2)) else (if ((q1.2 46 6) + p2) ≤ 120 then f_M_feed_L36   200 p1 p2 (p2 - 1) q1.2 else ((f_M_finding 1 q1.2).bind fun q8 => some (q8.1, q8.2)))))
set_option maxRecDepth 4000 in
theorem w_M_feed {X : xC} {d : Nat}  (p1 p2 : Int32) (S : St) : SemG eI X k_M_feed (d + 1) 0 [some (.ref (xB X + 46)), some (.int p1), some (.int p2), none] [] S (f_M_feed  p1 p2 S) := by
  unfold f_M_feed
  refine g_iload_n d_M_feed_0 rfl ?_
  refine g_iconst d_M_feed_1 ?_
  refine g_iconst d_M_feed_2 ?_
  refine g_callS3B d_M_feed_3 ml_M_45 sk_M_in rfl rfl rfl (Nat.le_of_ble_eq_true rfl) (w_M_in (X := X) (d := d) _ _ _ _) (fun q1 => ?_)
  refine s_if_ne d_M_feed_6 (fun u2 => ?_) (fun u2 => ?_)
  · refine g_aload_n d_M_feed_15 rfl ?_
    refine g_getI d_M_feed_16 fl_M_136 rfl rfl ?_
    refine g_iload_n d_M_feed_19 rfl ?_
    refine g_iadd d_M_feed_20 ?_
    refine g_bipush d_M_feed_21 ?_
    refine s_icmp_le d_M_feed_23 (fun u3 => ?_) (fun u3 => ?_)
    · refine g_iload_n d_M_feed_32 rfl ?_
      refine g_iconst d_M_feed_33 ?_
      refine g_isub d_M_feed_34 ?_
      refine g_istore_n d_M_feed_35 (by decide) ?_
      exact w_M_feed_L36 (X := X) (d := d) 200 _ _ _ _
    · refine g_aload_n d_M_feed_26 rfl ?_
      refine g_iconst d_M_feed_27 ?_
      refine g_callV1I d_M_feed_28 ml_M_61 vk_M_finding rfl ⟨_, rfl, rfl⟩ rfl (Nat.le_of_ble_eq_true rfl) (w_M_finding (X := X) (d := d) _ _) (fun q8 => ?_)
      exact g_ireturn d_M_feed_31 rfl rfl rfl
  · refine g_aload_n d_M_feed_9 rfl ?_
    refine g_iconst d_M_feed_10 ?_
    refine g_callV1I d_M_feed_11 ml_M_61 vk_M_finding rfl ⟨_, rfl, rfl⟩ rfl (Nat.le_of_ble_eq_true rfl) (w_M_finding (X := X) (d := d) _ _) (fun q9 => ?_)
    exact g_ireturn d_M_feed_14 rfl rfl rfl
def f_M_wipe (S : St) : Option (Int32 × St) := let S1 := put S 46 6 0; some ((S 46 6), S1)
set_option maxRecDepth 4000 in
theorem w_M_wipe {X : xC} {d : Nat}  (S : St) : SemG eI X k_M_wipe (d) 0 [some (.ref (xB X + 46)), none] [] S (f_M_wipe   S) := by
  unfold f_M_wipe
  refine g_aload_n d_M_wipe_0 rfl ?_
  refine g_getI d_M_wipe_1 fl_M_136 rfl rfl ?_
  refine g_istore_n d_M_wipe_4 (by decide) ?_
  refine g_aload_n d_M_wipe_5 rfl ?_
  refine g_iconst d_M_wipe_6 ?_
  refine g_putI d_M_wipe_7 fl_M_136 ⟨_, rfl, rfl⟩ rfl rfl rfl rfl ?_
  refine g_iload_n d_M_wipe_10 rfl ?_
  exact g_ireturn d_M_wipe_11 rfl rfl rfl
def f_M_planOf (p1 : Int32) (S : St) : Option (Int32 × St) := ((f_M_in p1 0 ((S 47 11) - 1) S).bind fun q1 => (if (bI q1.1) = 0 then ((f_M_finding 0 q1.2).bind fun q3 => some (q3.1, q3.2)) else (if inb (72 + p1) 92 = true then some ((q1.2 47 ((72 + p1)).toNatClampNeg), q1.2) else none)))
set_option maxRecDepth 4000 in
theorem w_M_planOf {X : xC} {d : Nat}  (p1 : Int32) (S : St) : SemG eI X k_M_planOf (d + 1) 0 [some (.ref (xB X + 46)), some (.int p1)] [] S (f_M_planOf  p1 S) := by
  unfold f_M_planOf
  refine g_iload_n d_M_planOf_0 rfl ?_
  refine g_iconst d_M_planOf_1 ?_
  refine g_aload_n d_M_planOf_2 rfl ?_
  refine g_getR d_M_planOf_3 fl_M_7 rfl rfl ?_
  refine g_bipush d_M_planOf_6 ?_
  refine g_ild d_M_planOf_8 rfl il_11_92.1 il_11_92.2 ?_
  refine g_iconst d_M_planOf_9 ?_
  refine g_isub d_M_planOf_10 ?_
  refine g_callS3B d_M_planOf_11 ml_M_45 sk_M_in rfl rfl rfl (Nat.le_of_ble_eq_true rfl) (w_M_in (X := X) (d := d) _ _ _ _) (fun q1 => ?_)
  refine s_if_eq d_M_planOf_14 (fun u2 => ?_) (fun u2 => ?_)
  · refine g_aload_n d_M_planOf_29 rfl ?_
    refine g_iconst d_M_planOf_30 ?_
    refine g_callV1I d_M_planOf_31 ml_M_61 vk_M_finding rfl ⟨_, rfl, rfl⟩ rfl (Nat.le_of_ble_eq_true rfl) (w_M_finding (X := X) (d := d) _ _) (fun q3 => ?_)
    exact g_ireturn d_M_planOf_34 rfl rfl rfl
  · refine g_aload_n d_M_planOf_17 rfl ?_
    refine g_getR d_M_planOf_18 fl_M_7 rfl rfl ?_
    refine g_bipush d_M_planOf_21 ?_
    refine g_iload_n d_M_planOf_23 rfl ?_
    refine g_iadd d_M_planOf_24 ?_
    refine g_guard (fun hb4 => ?_)
    refine g_ild d_M_planOf_25 rfl hb4 rfl ?_
    refine g_goto d_M_planOf_26 ?_
    exact g_ireturn d_M_planOf_34 rfl rfl rfl
def f_M_clear (S : St) : Option (Int32 × St) := let S1 := put S 47 11 0; some ((S 47 11), S1)
set_option maxRecDepth 4000 in
theorem w_M_clear {X : xC} {d : Nat}  (S : St) : SemG eI X k_M_clear (d) 0 [some (.ref (xB X + 46)), none] [] S (f_M_clear   S) := by
  unfold f_M_clear
  refine g_aload_n d_M_clear_0 rfl ?_
  refine g_getR d_M_clear_1 fl_M_7 rfl rfl ?_
  refine g_bipush d_M_clear_4 ?_
  refine g_ild d_M_clear_6 rfl il_11_92.1 il_11_92.2 ?_
  refine g_istore_n d_M_clear_7 (by decide) ?_
  refine g_aload_n d_M_clear_8 rfl ?_
  refine g_getR d_M_clear_9 fl_M_7 rfl rfl ?_
  refine g_bipush d_M_clear_12 ?_
  refine g_iconst d_M_clear_14 ?_
  refine g_ist d_M_clear_15 rfl il_11_92.1 il_11_92.2 ?_
  refine g_iload_n d_M_clear_16 rfl ?_
  exact g_ireturn d_M_clear_17 rfl rfl rfl
def f_M_follows_L2 : Nat → Int32 → St → Option (Int32 × St)
  | 0, _, _ => none
  | n + 1, y1, S => (if (S 47 11) ≤ y1 then some (y1, S) else (if inb (72 + y1) 92 = true then ((f_M_canDo (S 47 ((72 + y1)).toNatClampNeg) S).bind fun q3 => (if (bI q3.1) = 0 then some (y1, q3.2) else ((f_M_does (q3.2 47 ((72 + y1)).toNatClampNeg) q3.2).bind fun q5 => f_M_follows_L2   n (y1 + 1) q5))) else none))
set_option maxRecDepth 4000 in
theorem w_M_follows_L2 {X : xC} {d : Nat}   : ∀ (n : Nat) (y1 : Int32) (S : St), SemG eI X k_M_follows (d + 5) 2 [some (.ref (xB X + 46)), some (.int y1)] [] S (f_M_follows_L2   n y1 S) := by
  intro n
  induction n with
  | zero => intro _ _; exact g_none
  | succ n ih =>
    intro y1 S
    unfold f_M_follows_L2
    refine g_iload_n d_M_follows_2 rfl ?_
    refine g_aload_n d_M_follows_3 rfl ?_
    refine g_getR d_M_follows_4 fl_M_7 rfl rfl ?_
    refine g_bipush d_M_follows_7 ?_
    refine g_ild d_M_follows_9 rfl il_11_92.1 il_11_92.2 ?_
    refine s_icmp_ge d_M_follows_10 (fun u1 => ?_) (fun u1 => ?_)
    · refine g_iload_n d_M_follows_48 rfl ?_
      exact g_ireturn d_M_follows_49 rfl rfl rfl
    · refine g_aload_n d_M_follows_13 rfl ?_
      refine g_aload_n d_M_follows_14 rfl ?_
      refine g_getR d_M_follows_15 fl_M_7 rfl rfl ?_
      refine g_bipush d_M_follows_18 ?_
      refine g_iload_n d_M_follows_20 rfl ?_
      refine g_iadd d_M_follows_21 ?_
      refine g_guard (fun hb2 => ?_)
      refine g_ild d_M_follows_22 rfl hb2 rfl ?_
      refine g_callV1B d_M_follows_23 ml_M_114 vk_M_canDo rfl ⟨_, rfl, rfl⟩ rfl (Nat.le_of_ble_eq_true rfl) (w_M_canDo (X := X) (d := d + 1) _ _) (fun q3 => ?_)
      refine s_if_eq d_M_follows_26 (fun u4 => ?_) (fun u4 => ?_)
      · refine g_iload_n d_M_follows_48 rfl ?_
        exact g_ireturn d_M_follows_49 rfl rfl rfl
      · refine g_aload_n d_M_follows_29 rfl ?_
        refine g_aload_n d_M_follows_30 rfl ?_
        refine g_getR d_M_follows_31 fl_M_7 rfl rfl ?_
        refine g_bipush d_M_follows_34 ?_
        refine g_iload_n d_M_follows_36 rfl ?_
        refine g_iadd d_M_follows_37 ?_
        refine g_ild d_M_follows_38 rfl hb2 rfl ?_
        refine g_callV1V d_M_follows_39 ml_M_117 vk_M_does rfl ⟨_, rfl, rfl⟩ rfl (Nat.le_of_ble_eq_true rfl) (w_M_does (X := X) (d := d) _ _) (fun q5 => ?_)
        refine g_iinc d_M_follows_42 (by decide) rfl ?_
        refine g_goto d_M_follows_45 ?_
        exact ih _ _
def f_M_follows (S : St) : Option (Int32 × St) := f_M_follows_L2   200 0 S
set_option maxRecDepth 4000 in
theorem w_M_follows {X : xC} {d : Nat}  (S : St) : SemG eI X k_M_follows (d + 5) 0 [some (.ref (xB X + 46)), none] [] S (f_M_follows   S) := by
  unfold f_M_follows
  refine g_iconst d_M_follows_0 ?_
  refine g_istore_n d_M_follows_1 (by decide) ?_
  exact w_M_follows_L2 (X := X) (d := d) 200 _ _
def f_M_follow (S : St) : Option (Int32 × St) := ((f_M_follows S).bind fun q1 => some (q1.1, q1.2))
set_option maxRecDepth 4000 in
theorem w_M_follow {X : xC} {d : Nat}  (S : St) : SemG eI X k_M_follow (d + 6) 0 [some (.ref (xB X + 46))] [] S (f_M_follow   S) := by
  unfold f_M_follow
  refine g_aload_n d_M_follow_0 rfl ?_
  refine g_callV0I d_M_follow_1 ml_M_217 vk_M_follows rfl ⟨_, rfl, rfl⟩ (Nat.le_of_ble_eq_true rfl) (w_M_follows (X := X) (d := d) _) (fun q1 => ?_)
  exact g_ireturn d_M_follow_4 rfl rfl rfl
def f_M_plans (p1 : Int32) (S : St) : Option (Int32 × St) := ((f_M_in p1 0 3 S).bind fun q1 => (if (bI q1.1) = 0 then ((f_M_finding 0 q1.2).bind fun q11 => some (q11.1, q11.2)) else ((f_M_begin q1.2).bind fun q3 => ((f_M_follows q3).bind fun q4 => let x7 : Int32 := (if p1 = 1 then 0 else (if p1 = 2 then 2 else 1)); ((f_M_became x7 q4.2).bind fun q8 => let x10 : Int32 := (if p1 = 0 then q4.1 else q8.1); some (x10, q8.2))))))
set_option maxRecDepth 4000 in
theorem w_M_plans {X : xC} {d : Nat}  (p1 : Int32) (S : St) : SemG eI X k_M_plans (d + 6) 0 [some (.ref (xB X + 46)), some (.int p1), none, none] [] S (f_M_plans  p1 S) := by
  unfold f_M_plans
  refine g_iload_n d_M_plans_0 rfl ?_
  refine g_iconst d_M_plans_1 ?_
  refine g_iconst d_M_plans_2 ?_
  refine g_callS3B d_M_plans_3 ml_M_45 sk_M_in rfl rfl rfl (Nat.le_of_ble_eq_true rfl) (w_M_in (X := X) (d := d + 5) _ _ _ _) (fun q1 => ?_)
  refine s_if_ne d_M_plans_6 (fun u2 => ?_) (fun u2 => ?_)
  · refine g_aload_n d_M_plans_15 rfl ?_
    refine g_callV0V d_M_plans_16 ml_M_124 vk_M_begin rfl ⟨_, rfl, rfl⟩ (Nat.le_of_ble_eq_true rfl) (w_M_begin (X := X) (d := d + 4) _) (fun q3 => ?_)
    refine g_aload_n d_M_plans_19 rfl ?_
    refine g_callV0I d_M_plans_20 ml_M_217 vk_M_follows rfl ⟨_, rfl, rfl⟩ (Nat.le_of_ble_eq_true rfl) (w_M_follows (X := X) (d := d) _) (fun q4 => ?_)
    refine g_istore_n d_M_plans_23 (by decide) ?_
    refine g_aload_n d_M_plans_24 rfl ?_
    refine g_iload_n d_M_plans_25 rfl ?_
    refine g_iconst d_M_plans_26 ?_
    refine m_icmp_ne d_M_plans_27 (fun hJ6 => g_iload_n d_M_plans_34 rfl (g_iconst d_M_plans_35 (m_icmp_ne d_M_plans_36 (fun hJ5 => g_iconst d_M_plans_43 hJ5) (fun hJ5 => g_iconst d_M_plans_39 (g_goto d_M_plans_40 hJ5)) hJ6))) (fun hJ6 => g_iconst d_M_plans_30 (g_goto d_M_plans_31 hJ6)) ?_
    refine g_callV1I d_M_plans_44 ml_M_127 vk_M_became rfl ⟨_, rfl, rfl⟩ rfl (Nat.le_of_ble_eq_true rfl) (w_M_became (X := X) (d := d + 3) _ _) (fun q8 => ?_)
    refine g_istore_n d_M_plans_47 (by decide) ?_
    refine g_iload_n d_M_plans_48 rfl ?_
    refine m_if_ne d_M_plans_49 (fun hJ9 => g_iload_n d_M_plans_56 rfl hJ9) (fun hJ9 => g_iload_n d_M_plans_52 rfl (g_goto d_M_plans_53 hJ9)) ?_
    exact g_ireturn d_M_plans_57 rfl rfl rfl
  · refine g_aload_n d_M_plans_9 rfl ?_
    refine g_iconst d_M_plans_10 ?_
    refine g_callV1I d_M_plans_11 ml_M_61 vk_M_finding rfl ⟨_, rfl, rfl⟩ rfl (Nat.le_of_ble_eq_true rfl) (w_M_finding (X := X) (d := d + 5) _ _) (fun q11 => ?_)
    exact g_ireturn d_M_plans_14 rfl rfl rfl
