def f_H_begin (S : St) : Option (St) := ((f_L_become 26 3 27 2 3 4 S).bind fun q1 => let S2 := put q1 24 1 0; some S2)
set_option maxRecDepth 4000 in
theorem w_H_begin {X : xC} {d : Nat}  (S : St) : SemG eV X k_H_begin (d + 2) 0 [some (.ref (xB X + 24)), some (.ref (xB X + 2))] [] S (f_H_begin   S) := by
  unfold f_H_begin
  refine g_aload_n d_H_begin_0 rfl ?_
  refine g_getR d_H_begin_1 fl_H_11 rfl rfl ?_
  refine g_iconst d_H_begin_4 ?_
  refine g_ald (t := 1) d_H_begin_5 rfl rfl (by decide) rfl ?_
  refine g_aload_n d_H_begin_6 rfl ?_
  refine g_callV1V d_H_begin_7 ml_H_20 vk_L_become rfl ⟨_, rfl, rfl⟩ rfl (Nat.le_of_ble_eq_true rfl) (w_L_become (X := X) (d := d) rfl rfl rfl rfl rfl rfl _) (fun q1 => ?_)
  refine g_aload_n d_H_begin_10 rfl ?_
  refine g_iconst d_H_begin_11 ?_
  refine g_putI d_H_begin_12 fl_H_24 ⟨_, rfl, rfl⟩ rfl rfl rfl rfl ?_
  exact g_return d_H_begin_15 rfl rfl
def f_H_weigh (c1 g1 h1 : Nat) (p2 : Int32) (S : St) : Option (St) := ((f_L_since c1 g1 h1 26 3 27 0 S).bind fun q1 => ((f_L_since c1 g1 h1 26 3 27 8 q1.2).bind fun q2 => (if (q2.2 24 1) = 0 then let S4 := put q2.2 24 1 1; let S5 := put S4 24 2 q1.1; let S6 := put S5 24 3 q2.1; let S7 := put S6 24 4 p2; some S7 else (if (q2.2 24 2) < q1.1 then let S9 := put q2.2 24 1 1; let S10 := put S9 24 2 q1.1; let S11 := put S10 24 3 q2.1; let S12 := put S11 24 4 p2; some S12 else (if q1.1 = (q2.2 24 2) then (if (q2.2 24 3) ≤ q2.1 then some q2.2 else let S15 := put q2.2 24 1 1; let S16 := put S15 24 2 q1.1; let S17 := put S16 24 3 q2.1; let S18 := put S17 24 4 p2; some S18) else some q2.2)))))
set_option maxRecDepth 4000 in
theorem w_H_weigh {X : xC} {d : Nat} {c1 g1 h1 : Nat} (hc1 : lay[c1]? = some (.inr (.inr (0, [some g1, some h1])))) (hg1 : lay[g1]? = some (.inl 40)) (hh1 : lay[h1]? = some (.inl 10)) (p2 : Int32) (S : St) : SemG eV X k_H_weigh (d + 1) 0 [some (.ref (xB X + 24)), some (.ref (xB X + c1)), some (.int p2), none, none] [] S (f_H_weigh c1 g1 h1 p2 S) := by
  unfold f_H_weigh
  refine g_aload_n d_H_weigh_0 rfl ?_
  refine g_aload_n d_H_weigh_1 rfl ?_
  refine g_getR d_H_weigh_2 fl_H_11 rfl rfl ?_
  refine g_iconst d_H_weigh_5 ?_
  refine g_ald (t := 1) d_H_weigh_6 rfl rfl (by decide) rfl ?_
  refine g_iconst d_H_weigh_7 ?_
  refine g_callV2I d_H_weigh_8 ml_H_40 vk_L_since hc1 ⟨_, rfl, rfl⟩ rfl rfl (Nat.le_of_ble_eq_true rfl) (w_L_since (X := X) (d := d) hc1 hg1 hh1 rfl rfl rfl _ _) (fun q1 => ?_)
  refine g_istore_n d_H_weigh_11 (by decide) ?_
  refine g_aload_n d_H_weigh_12 rfl ?_
  refine g_aload_n d_H_weigh_13 rfl ?_
  refine g_getR d_H_weigh_14 fl_H_11 rfl rfl ?_
  refine g_iconst d_H_weigh_17 ?_
  refine g_ald (t := 1) d_H_weigh_18 rfl rfl (by decide) rfl ?_
  refine g_bipush d_H_weigh_19 ?_
  refine g_callV2I d_H_weigh_21 ml_H_40 vk_L_since hc1 ⟨_, rfl, rfl⟩ rfl rfl (Nat.le_of_ble_eq_true rfl) (w_L_since (X := X) (d := d) hc1 hg1 hh1 rfl rfl rfl _ _) (fun q2 => ?_)
  refine g_istore d_H_weigh_24 (by decide) ?_
  refine g_aload_n d_H_weigh_26 rfl ?_
  refine g_getI d_H_weigh_27 fl_H_24 rfl rfl ?_
  refine s_if_eq d_H_weigh_30 (fun u3 => ?_) (fun u3 => ?_)
  · refine g_aload_n d_H_weigh_58 rfl ?_
    refine g_iconst d_H_weigh_59 ?_
    refine g_putI d_H_weigh_60 fl_H_24 ⟨_, rfl, rfl⟩ rfl rfl rfl rfl ?_
    refine g_aload_n d_H_weigh_63 rfl ?_
    refine g_iload_n d_H_weigh_64 rfl ?_
    refine g_putI d_H_weigh_65 fl_H_44 ⟨_, rfl, rfl⟩ rfl rfl rfl rfl ?_
    refine g_aload_n d_H_weigh_68 rfl ?_
    refine g_iload d_H_weigh_69 rfl ?_
    refine g_putI d_H_weigh_71 fl_H_48 ⟨_, rfl, rfl⟩ rfl rfl rfl rfl ?_
    refine g_aload_n d_H_weigh_74 rfl ?_
    refine g_iload_n d_H_weigh_75 rfl ?_
    refine g_putI d_H_weigh_76 fl_H_51 ⟨_, rfl, rfl⟩ rfl rfl rfl rfl ?_
    exact g_return d_H_weigh_79 rfl rfl
  · refine g_iload_n d_H_weigh_33 rfl ?_
    refine g_aload_n d_H_weigh_34 rfl ?_
    refine g_getI d_H_weigh_35 fl_H_44 rfl rfl ?_
    refine s_icmp_gt d_H_weigh_38 (fun u8 => ?_) (fun u8 => ?_)
    · refine g_aload_n d_H_weigh_58 rfl ?_
      refine g_iconst d_H_weigh_59 ?_
      refine g_putI d_H_weigh_60 fl_H_24 ⟨_, rfl, rfl⟩ rfl rfl rfl rfl ?_
      refine g_aload_n d_H_weigh_63 rfl ?_
      refine g_iload_n d_H_weigh_64 rfl ?_
      refine g_putI d_H_weigh_65 fl_H_44 ⟨_, rfl, rfl⟩ rfl rfl rfl rfl ?_
      refine g_aload_n d_H_weigh_68 rfl ?_
      refine g_iload d_H_weigh_69 rfl ?_
      refine g_putI d_H_weigh_71 fl_H_48 ⟨_, rfl, rfl⟩ rfl rfl rfl rfl ?_
      refine g_aload_n d_H_weigh_74 rfl ?_
      refine g_iload_n d_H_weigh_75 rfl ?_
      refine g_putI d_H_weigh_76 fl_H_51 ⟨_, rfl, rfl⟩ rfl rfl rfl rfl ?_
      exact g_return d_H_weigh_79 rfl rfl
    · refine g_iload_n d_H_weigh_41 rfl ?_
      refine g_aload_n d_H_weigh_42 rfl ?_
      refine g_getI d_H_weigh_43 fl_H_44 rfl rfl ?_
      refine s_icmp_ne d_H_weigh_46 (fun u13 => ?_) (fun u13 => ?_)
      · exact g_return d_H_weigh_79 rfl rfl
      · refine g_iload d_H_weigh_49 rfl ?_
        refine g_aload_n d_H_weigh_51 rfl ?_
        refine g_getI d_H_weigh_52 fl_H_48 rfl rfl ?_
        refine s_icmp_ge d_H_weigh_55 (fun u14 => ?_) (fun u14 => ?_)
        · exact g_return d_H_weigh_79 rfl rfl
        · refine g_aload_n d_H_weigh_58 rfl ?_
          refine g_iconst d_H_weigh_59 ?_
          refine g_putI d_H_weigh_60 fl_H_24 ⟨_, rfl, rfl⟩ rfl rfl rfl rfl ?_
          refine g_aload_n d_H_weigh_63 rfl ?_
          refine g_iload_n d_H_weigh_64 rfl ?_
          refine g_putI d_H_weigh_65 fl_H_44 ⟨_, rfl, rfl⟩ rfl rfl rfl rfl ?_
          refine g_aload_n d_H_weigh_68 rfl ?_
          refine g_iload d_H_weigh_69 rfl ?_
          refine g_putI d_H_weigh_71 fl_H_48 ⟨_, rfl, rfl⟩ rfl rfl rfl rfl ?_
          refine g_aload_n d_H_weigh_74 rfl ?_
          refine g_iload_n d_H_weigh_75 rfl ?_
          refine g_putI d_H_weigh_76 fl_H_51 ⟨_, rfl, rfl⟩ rfl rfl rfl rfl ?_
          exact g_return d_H_weigh_79 rfl rfl
def f_H_tryRows_3_L30 : Nat → Int32 → Int32 → Int32 → St → Option (St)
  | 0, _, _, _, _ => none
  | n + 1, y2, y3, y4, S => (if 8 ≤ y4 then some S else some S)
set_option maxRecDepth 4000 in
theorem w_H_tryRows_3_L30 {X : xC} {d : Nat}   : ∀ (n : Nat) (y2 : Int32) (y3 : Int32) (y4 : Int32) (S : St), SemG eV X k_H_tryRows (d + 2) 30 [some (.ref (xB X + 24)), some (.int 3), some (.int y2), some (.int y3), some (.int y4), none] [] S (f_H_tryRows_3_L30   n y2 y3 y4 S) := by
  intro n
  induction n with
  | zero => intro _ _ _ _; exact g_none
  | succ n ih =>
    intro y2 y3 y4 S
    unfold f_H_tryRows_3_L30
    refine g_iload d_H_tryRows_30 rfl ?_
    refine g_bipush d_H_tryRows_32 ?_
    refine s_icmp_ge d_H_tryRows_34 (fun u2 => ?_) (fun u2 => ?_)
    · exact g_return d_H_tryRows_94 rfl rfl
    · refine g_iload_n d_H_tryRows_37 rfl ?_
      refine g_iconst d_H_tryRows_38 ?_
      refine g_icmp_ge d_H_tryRows_39 (fun _ => ?_) (fun h => absurd (by decide) h)
      exact g_return d_H_tryRows_94 rfl rfl
def f_H_tryRows_3 (p3 p4 : Int32) (S : St) : Option (St) := (if 3 < p3 then f_H_tryRows_3_L30   200 p3 p4 0 S else ((f_H_weigh 32 3 33 p4 S).bind fun q3 => some q3))
set_option maxRecDepth 4000 in
theorem w_H_tryRows_3 {X : xC} {d : Nat}  (p3 p4 : Int32) (S : St) : SemG eV X k_H_tryRows (d + 2) 0 [some (.ref (xB X + 24)), some (.int 3), some (.int p3), some (.int p4), none, none] [] S (f_H_tryRows_3  p3 p4 S) := by
  unfold f_H_tryRows_3
  refine g_iload_n d_H_tryRows_0 rfl ?_
  refine g_if_lt d_H_tryRows_1 (fun h => absurd h (by decide)) (fun _ => ?_)
  refine g_iload_n d_H_tryRows_4 rfl ?_
  refine g_iconst d_H_tryRows_5 ?_
  refine g_icmp_le d_H_tryRows_6 (fun _ => ?_) (fun h => absurd (by decide) h)
  refine g_iload_n d_H_tryRows_10 rfl ?_
  refine g_iload_n d_H_tryRows_11 rfl ?_
  refine s_icmp_lt d_H_tryRows_12 (fun u1 => ?_) (fun u1 => ?_)
  · refine g_iconst d_H_tryRows_27 ?_
    refine g_istore d_H_tryRows_28 (by decide) ?_
    exact w_H_tryRows_3_L30 (X := X) (d := d) 200 _ _ _ _
  · refine g_aload_n d_H_tryRows_15 rfl ?_
    refine g_aload_n d_H_tryRows_16 rfl ?_
    refine g_getR d_H_tryRows_17 fl_H_11 rfl rfl ?_
    refine g_iload_n d_H_tryRows_20 rfl ?_
    refine g_ald (t := 1) d_H_tryRows_21 rfl rfl (by decide) rfl ?_
    refine g_iload_n d_H_tryRows_22 rfl ?_
    refine g_callV2V d_H_tryRows_23 ml_H_28 vk_H_weigh rfl ⟨_, rfl, rfl⟩ rfl rfl (Nat.le_of_ble_eq_true rfl) (w_H_weigh (X := X) (d := d) rfl rfl rfl _ _) (fun q3 => ?_)
    exact g_return d_H_tryRows_26 rfl rfl
def f_H_tryRows_2_L30 : Nat → Int32 → Int32 → Int32 → St → Option (St)
  | 0, _, _, _, _ => none
  | n + 1, y2, y3, y4, S => (if 8 ≤ y4 then some S else ((f_L_become 32 3 33 30 3 31 S).bind fun q3 => ((f_L_carriesOut 32 3 33 y4 q3).bind fun q4 => (if (bI q4.1) = 0 then f_H_tryRows_2_L30   n y2 y3 (y4 + 1) q4.2 else ((f_H_tryRows_3 y2 ((y3 * 10) + y4) q4.2).bind fun q6 => f_H_tryRows_2_L30   n y2 y3 (y4 + 1) q6)))))
set_option maxRecDepth 4000 in
theorem w_H_tryRows_2_L30 {X : xC} {d : Nat}   : ∀ (n : Nat) (y2 : Int32) (y3 : Int32) (y4 : Int32) (S : St), SemG eV X k_H_tryRows (d + 5) 30 [some (.ref (xB X + 24)), some (.int 2), some (.int y2), some (.int y3), some (.int y4), none] [] S (f_H_tryRows_2_L30   n y2 y3 y4 S) := by
  intro n
  induction n with
  | zero => intro _ _ _ _; exact g_none
  | succ n ih =>
    intro y2 y3 y4 S
    unfold f_H_tryRows_2_L30
    refine g_iload d_H_tryRows_30 rfl ?_
    refine g_bipush d_H_tryRows_32 ?_
    refine s_icmp_ge d_H_tryRows_34 (fun u2 => ?_) (fun u2 => ?_)
    · exact g_return d_H_tryRows_94 rfl rfl
    · refine g_iload_n d_H_tryRows_37 rfl ?_
      refine g_iconst d_H_tryRows_38 ?_
      refine g_icmp_ge d_H_tryRows_39 (fun h => absurd h (by decide)) (fun _ => ?_)
      refine g_aload_n d_H_tryRows_42 rfl ?_
      refine g_getR d_H_tryRows_43 fl_H_11 rfl rfl ?_
      refine g_iload_n d_H_tryRows_46 rfl ?_
      refine g_iconst d_H_tryRows_47 ?_
      refine g_iadd d_H_tryRows_48 ?_
      refine g_fold (y := 3) (by decide) ?_
      refine g_ald (t := 1) d_H_tryRows_49 rfl rfl (by decide) rfl ?_
      refine g_astore d_H_tryRows_50 (by decide) ?_
      refine g_aload d_H_tryRows_52 rfl ?_
      refine g_aload_n d_H_tryRows_54 rfl ?_
      refine g_getR d_H_tryRows_55 fl_H_11 rfl rfl ?_
      refine g_iload_n d_H_tryRows_58 rfl ?_
      refine g_ald (t := 1) d_H_tryRows_59 rfl rfl (by decide) rfl ?_
      refine g_callV1V d_H_tryRows_60 ml_H_20 vk_L_become rfl ⟨_, rfl, rfl⟩ rfl (Nat.le_of_ble_eq_true rfl) (w_L_become (X := X) (d := d + 3) rfl rfl rfl rfl rfl rfl _) (fun q3 => ?_)
      refine g_aload d_H_tryRows_63 rfl ?_
      refine g_iload d_H_tryRows_65 rfl ?_
      refine g_callV1B d_H_tryRows_67 ml_H_32 vk_L_carriesOut rfl ⟨_, rfl, rfl⟩ rfl (Nat.le_of_ble_eq_true rfl) (w_L_carriesOut (X := X) (d := d) rfl rfl rfl _ _) (fun q4 => ?_)
      refine s_if_eq d_H_tryRows_70 (fun u5 => ?_) (fun u5 => ?_)
      · refine g_iinc d_H_tryRows_88 (by decide) rfl ?_
        refine g_goto d_H_tryRows_91 ?_
        refine g_drop 5 ?_
        exact ih _ _ _ _
      · refine g_aload_n d_H_tryRows_73 rfl ?_
        refine g_iload_n d_H_tryRows_74 rfl ?_
        refine g_iconst d_H_tryRows_75 ?_
        refine g_iadd d_H_tryRows_76 ?_
        refine g_fold (y := 3) (by decide) ?_
        refine g_iload_n d_H_tryRows_77 rfl ?_
        refine g_iload_n d_H_tryRows_78 rfl ?_
        refine g_bipush d_H_tryRows_79 ?_
        refine g_imul d_H_tryRows_81 ?_
        refine g_iload d_H_tryRows_82 rfl ?_
        refine g_iadd d_H_tryRows_84 ?_
        refine g_callS4V d_H_tryRows_85 ml_H_36 sk_H_tryRows rfl rfl rfl rfl (Nat.le_of_ble_eq_true rfl) (w_H_tryRows_3 (X := X) (d := d + 2) _ _ _) (fun q6 => ?_)
        refine g_iinc d_H_tryRows_88 (by decide) rfl ?_
        refine g_goto d_H_tryRows_91 ?_
        refine g_drop 5 ?_
        exact ih _ _ _ _
def f_H_tryRows_2 (p3 p4 : Int32) (S : St) : Option (St) := (if 2 < p3 then f_H_tryRows_2_L30   200 p3 p4 0 S else ((f_H_weigh 30 3 31 p4 S).bind fun q7 => some q7))
set_option maxRecDepth 4000 in
theorem w_H_tryRows_2 {X : xC} {d : Nat}  (p3 p4 : Int32) (S : St) : SemG eV X k_H_tryRows (d + 5) 0 [some (.ref (xB X + 24)), some (.int 2), some (.int p3), some (.int p4), none, none] [] S (f_H_tryRows_2  p3 p4 S) := by
  unfold f_H_tryRows_2
  refine g_iload_n d_H_tryRows_0 rfl ?_
  refine g_if_lt d_H_tryRows_1 (fun h => absurd h (by decide)) (fun _ => ?_)
  refine g_iload_n d_H_tryRows_4 rfl ?_
  refine g_iconst d_H_tryRows_5 ?_
  refine g_icmp_le d_H_tryRows_6 (fun _ => ?_) (fun h => absurd (by decide) h)
  refine g_iload_n d_H_tryRows_10 rfl ?_
  refine g_iload_n d_H_tryRows_11 rfl ?_
  refine s_icmp_lt d_H_tryRows_12 (fun u1 => ?_) (fun u1 => ?_)
  · refine g_iconst d_H_tryRows_27 ?_
    refine g_istore d_H_tryRows_28 (by decide) ?_
    exact w_H_tryRows_2_L30 (X := X) (d := d) 200 _ _ _ _
  · refine g_aload_n d_H_tryRows_15 rfl ?_
    refine g_aload_n d_H_tryRows_16 rfl ?_
    refine g_getR d_H_tryRows_17 fl_H_11 rfl rfl ?_
    refine g_iload_n d_H_tryRows_20 rfl ?_
    refine g_ald (t := 1) d_H_tryRows_21 rfl rfl (by decide) rfl ?_
    refine g_iload_n d_H_tryRows_22 rfl ?_
    refine g_callV2V d_H_tryRows_23 ml_H_28 vk_H_weigh rfl ⟨_, rfl, rfl⟩ rfl rfl (Nat.le_of_ble_eq_true rfl) (w_H_weigh (X := X) (d := d + 3) rfl rfl rfl _ _) (fun q7 => ?_)
    exact g_return d_H_tryRows_26 rfl rfl
def f_H_tryRows_1_L30 : Nat → Int32 → Int32 → Int32 → St → Option (St)
  | 0, _, _, _, _ => none
  | n + 1, y2, y3, y4, S => (if 8 ≤ y4 then some S else ((f_L_become 30 3 31 28 3 29 S).bind fun q3 => ((f_L_carriesOut 30 3 31 y4 q3).bind fun q4 => (if (bI q4.1) = 0 then f_H_tryRows_1_L30   n y2 y3 (y4 + 1) q4.2 else ((f_H_tryRows_2 y2 ((y3 * 10) + y4) q4.2).bind fun q6 => f_H_tryRows_1_L30   n y2 y3 (y4 + 1) q6)))))
set_option maxRecDepth 4000 in
theorem w_H_tryRows_1_L30 {X : xC} {d : Nat}   : ∀ (n : Nat) (y2 : Int32) (y3 : Int32) (y4 : Int32) (S : St), SemG eV X k_H_tryRows (d + 6) 30 [some (.ref (xB X + 24)), some (.int 1), some (.int y2), some (.int y3), some (.int y4), none] [] S (f_H_tryRows_1_L30   n y2 y3 y4 S) := by
  intro n
  induction n with
  | zero => intro _ _ _ _; exact g_none
  | succ n ih =>
    intro y2 y3 y4 S
    unfold f_H_tryRows_1_L30
    refine g_iload d_H_tryRows_30 rfl ?_
    refine g_bipush d_H_tryRows_32 ?_
    refine s_icmp_ge d_H_tryRows_34 (fun u2 => ?_) (fun u2 => ?_)
    · exact g_return d_H_tryRows_94 rfl rfl
    · refine g_iload_n d_H_tryRows_37 rfl ?_
      refine g_iconst d_H_tryRows_38 ?_
      refine g_icmp_ge d_H_tryRows_39 (fun h => absurd h (by decide)) (fun _ => ?_)
      refine g_aload_n d_H_tryRows_42 rfl ?_
      refine g_getR d_H_tryRows_43 fl_H_11 rfl rfl ?_
      refine g_iload_n d_H_tryRows_46 rfl ?_
      refine g_iconst d_H_tryRows_47 ?_
      refine g_iadd d_H_tryRows_48 ?_
      refine g_fold (y := 2) (by decide) ?_
      refine g_ald (t := 1) d_H_tryRows_49 rfl rfl (by decide) rfl ?_
      refine g_astore d_H_tryRows_50 (by decide) ?_
      refine g_aload d_H_tryRows_52 rfl ?_
      refine g_aload_n d_H_tryRows_54 rfl ?_
      refine g_getR d_H_tryRows_55 fl_H_11 rfl rfl ?_
      refine g_iload_n d_H_tryRows_58 rfl ?_
      refine g_ald (t := 1) d_H_tryRows_59 rfl rfl (by decide) rfl ?_
      refine g_callV1V d_H_tryRows_60 ml_H_20 vk_L_become rfl ⟨_, rfl, rfl⟩ rfl (Nat.le_of_ble_eq_true rfl) (w_L_become (X := X) (d := d + 4) rfl rfl rfl rfl rfl rfl _) (fun q3 => ?_)
      refine g_aload d_H_tryRows_63 rfl ?_
      refine g_iload d_H_tryRows_65 rfl ?_
      refine g_callV1B d_H_tryRows_67 ml_H_32 vk_L_carriesOut rfl ⟨_, rfl, rfl⟩ rfl (Nat.le_of_ble_eq_true rfl) (w_L_carriesOut (X := X) (d := d + 1) rfl rfl rfl _ _) (fun q4 => ?_)
      refine s_if_eq d_H_tryRows_70 (fun u5 => ?_) (fun u5 => ?_)
      · refine g_iinc d_H_tryRows_88 (by decide) rfl ?_
        refine g_goto d_H_tryRows_91 ?_
        refine g_drop 5 ?_
        exact ih _ _ _ _
      · refine g_aload_n d_H_tryRows_73 rfl ?_
        refine g_iload_n d_H_tryRows_74 rfl ?_
        refine g_iconst d_H_tryRows_75 ?_
        refine g_iadd d_H_tryRows_76 ?_
        refine g_fold (y := 2) (by decide) ?_
        refine g_iload_n d_H_tryRows_77 rfl ?_
        refine g_iload_n d_H_tryRows_78 rfl ?_
        refine g_bipush d_H_tryRows_79 ?_
        refine g_imul d_H_tryRows_81 ?_
        refine g_iload d_H_tryRows_82 rfl ?_
        refine g_iadd d_H_tryRows_84 ?_
        refine g_callS4V d_H_tryRows_85 ml_H_36 sk_H_tryRows rfl rfl rfl rfl (Nat.le_of_ble_eq_true rfl) (w_H_tryRows_2 (X := X) (d := d) _ _ _) (fun q6 => ?_)
        refine g_iinc d_H_tryRows_88 (by decide) rfl ?_
        refine g_goto d_H_tryRows_91 ?_
        refine g_drop 5 ?_
        exact ih _ _ _ _
def f_H_tryRows_1 (p3 p4 : Int32) (S : St) : Option (St) := (if 1 < p3 then f_H_tryRows_1_L30   200 p3 p4 0 S else ((f_H_weigh 28 3 29 p4 S).bind fun q7 => some q7))
set_option maxRecDepth 4000 in
theorem w_H_tryRows_1 {X : xC} {d : Nat}  (p3 p4 : Int32) (S : St) : SemG eV X k_H_tryRows (d + 6) 0 [some (.ref (xB X + 24)), some (.int 1), some (.int p3), some (.int p4), none, none] [] S (f_H_tryRows_1  p3 p4 S) := by
  unfold f_H_tryRows_1
  refine g_iload_n d_H_tryRows_0 rfl ?_
  refine g_if_lt d_H_tryRows_1 (fun h => absurd h (by decide)) (fun _ => ?_)
  refine g_iload_n d_H_tryRows_4 rfl ?_
  refine g_iconst d_H_tryRows_5 ?_
  refine g_icmp_le d_H_tryRows_6 (fun _ => ?_) (fun h => absurd (by decide) h)
  refine g_iload_n d_H_tryRows_10 rfl ?_
  refine g_iload_n d_H_tryRows_11 rfl ?_
  refine s_icmp_lt d_H_tryRows_12 (fun u1 => ?_) (fun u1 => ?_)
  · refine g_iconst d_H_tryRows_27 ?_
    refine g_istore d_H_tryRows_28 (by decide) ?_
    exact w_H_tryRows_1_L30 (X := X) (d := d) 200 _ _ _ _
  · refine g_aload_n d_H_tryRows_15 rfl ?_
    refine g_aload_n d_H_tryRows_16 rfl ?_
    refine g_getR d_H_tryRows_17 fl_H_11 rfl rfl ?_
    refine g_iload_n d_H_tryRows_20 rfl ?_
    refine g_ald (t := 1) d_H_tryRows_21 rfl rfl (by decide) rfl ?_
    refine g_iload_n d_H_tryRows_22 rfl ?_
    refine g_callV2V d_H_tryRows_23 ml_H_28 vk_H_weigh rfl ⟨_, rfl, rfl⟩ rfl rfl (Nat.le_of_ble_eq_true rfl) (w_H_weigh (X := X) (d := d + 4) rfl rfl rfl _ _) (fun q7 => ?_)
    exact g_return d_H_tryRows_26 rfl rfl
def f_H_tryRows_0_L30 : Nat → Int32 → Int32 → Int32 → St → Option (St)
  | 0, _, _, _, _ => none
  | n + 1, y2, y3, y4, S => (if 8 ≤ y4 then some S else ((f_L_become 28 3 29 26 3 27 S).bind fun q3 => ((f_L_carriesOut 28 3 29 y4 q3).bind fun q4 => (if (bI q4.1) = 0 then f_H_tryRows_0_L30   n y2 y3 (y4 + 1) q4.2 else ((f_H_tryRows_1 y2 ((y3 * 10) + y4) q4.2).bind fun q6 => f_H_tryRows_0_L30   n y2 y3 (y4 + 1) q6)))))
set_option maxRecDepth 4000 in
theorem w_H_tryRows_0_L30 {X : xC} {d : Nat}   : ∀ (n : Nat) (y2 : Int32) (y3 : Int32) (y4 : Int32) (S : St), SemG eV X k_H_tryRows (d + 7) 30 [some (.ref (xB X + 24)), some (.int 0), some (.int y2), some (.int y3), some (.int y4), none] [] S (f_H_tryRows_0_L30   n y2 y3 y4 S) := by
  intro n
  induction n with
  | zero => intro _ _ _ _; exact g_none
  | succ n ih =>
    intro y2 y3 y4 S
    unfold f_H_tryRows_0_L30
    refine g_iload d_H_tryRows_30 rfl ?_
    refine g_bipush d_H_tryRows_32 ?_
    refine s_icmp_ge d_H_tryRows_34 (fun u2 => ?_) (fun u2 => ?_)
    · exact g_return d_H_tryRows_94 rfl rfl
    · refine g_iload_n d_H_tryRows_37 rfl ?_
      refine g_iconst d_H_tryRows_38 ?_
      refine g_icmp_ge d_H_tryRows_39 (fun h => absurd h (by decide)) (fun _ => ?_)
      refine g_aload_n d_H_tryRows_42 rfl ?_
      refine g_getR d_H_tryRows_43 fl_H_11 rfl rfl ?_
      refine g_iload_n d_H_tryRows_46 rfl ?_
      refine g_iconst d_H_tryRows_47 ?_
      refine g_iadd d_H_tryRows_48 ?_
      refine g_fold (y := 1) (by decide) ?_
      refine g_ald (t := 1) d_H_tryRows_49 rfl rfl (by decide) rfl ?_
      refine g_astore d_H_tryRows_50 (by decide) ?_
      refine g_aload d_H_tryRows_52 rfl ?_
      refine g_aload_n d_H_tryRows_54 rfl ?_
      refine g_getR d_H_tryRows_55 fl_H_11 rfl rfl ?_
      refine g_iload_n d_H_tryRows_58 rfl ?_
      refine g_ald (t := 1) d_H_tryRows_59 rfl rfl (by decide) rfl ?_
      refine g_callV1V d_H_tryRows_60 ml_H_20 vk_L_become rfl ⟨_, rfl, rfl⟩ rfl (Nat.le_of_ble_eq_true rfl) (w_L_become (X := X) (d := d + 5) rfl rfl rfl rfl rfl rfl _) (fun q3 => ?_)
      refine g_aload d_H_tryRows_63 rfl ?_
      refine g_iload d_H_tryRows_65 rfl ?_
      refine g_callV1B d_H_tryRows_67 ml_H_32 vk_L_carriesOut rfl ⟨_, rfl, rfl⟩ rfl (Nat.le_of_ble_eq_true rfl) (w_L_carriesOut (X := X) (d := d + 2) rfl rfl rfl _ _) (fun q4 => ?_)
      refine s_if_eq d_H_tryRows_70 (fun u5 => ?_) (fun u5 => ?_)
      · refine g_iinc d_H_tryRows_88 (by decide) rfl ?_
        refine g_goto d_H_tryRows_91 ?_
        refine g_drop 5 ?_
        exact ih _ _ _ _
      · refine g_aload_n d_H_tryRows_73 rfl ?_
        refine g_iload_n d_H_tryRows_74 rfl ?_
        refine g_iconst d_H_tryRows_75 ?_
        refine g_iadd d_H_tryRows_76 ?_
        refine g_fold (y := 1) (by decide) ?_
        refine g_iload_n d_H_tryRows_77 rfl ?_
        refine g_iload_n d_H_tryRows_78 rfl ?_
        refine g_bipush d_H_tryRows_79 ?_
        refine g_imul d_H_tryRows_81 ?_
        refine g_iload d_H_tryRows_82 rfl ?_
        refine g_iadd d_H_tryRows_84 ?_
        refine g_callS4V d_H_tryRows_85 ml_H_36 sk_H_tryRows rfl rfl rfl rfl (Nat.le_of_ble_eq_true rfl) (w_H_tryRows_1 (X := X) (d := d) _ _ _) (fun q6 => ?_)
        refine g_iinc d_H_tryRows_88 (by decide) rfl ?_
        refine g_goto d_H_tryRows_91 ?_
        refine g_drop 5 ?_
        exact ih _ _ _ _
def f_H_tryRows_0 (p3 p4 : Int32) (S : St) : Option (St) := (if 0 < p3 then f_H_tryRows_0_L30   200 p3 p4 0 S else ((f_H_weigh 26 3 27 p4 S).bind fun q7 => some q7))
set_option maxRecDepth 4000 in
theorem w_H_tryRows_0 {X : xC} {d : Nat}  (p3 p4 : Int32) (S : St) : SemG eV X k_H_tryRows (d + 7) 0 [some (.ref (xB X + 24)), some (.int 0), some (.int p3), some (.int p4), none, none] [] S (f_H_tryRows_0  p3 p4 S) := by
  unfold f_H_tryRows_0
  refine g_iload_n d_H_tryRows_0 rfl ?_
  refine g_if_lt d_H_tryRows_1 (fun h => absurd h (by decide)) (fun _ => ?_)
  refine g_iload_n d_H_tryRows_4 rfl ?_
  refine g_iconst d_H_tryRows_5 ?_
  refine g_icmp_le d_H_tryRows_6 (fun _ => ?_) (fun h => absurd (by decide) h)
  refine g_iload_n d_H_tryRows_10 rfl ?_
  refine g_iload_n d_H_tryRows_11 rfl ?_
  refine s_icmp_lt d_H_tryRows_12 (fun u1 => ?_) (fun u1 => ?_)
  · refine g_iconst d_H_tryRows_27 ?_
    refine g_istore d_H_tryRows_28 (by decide) ?_
    exact w_H_tryRows_0_L30 (X := X) (d := d) 200 _ _ _ _
  · refine g_aload_n d_H_tryRows_15 rfl ?_
    refine g_aload_n d_H_tryRows_16 rfl ?_
    refine g_getR d_H_tryRows_17 fl_H_11 rfl rfl ?_
    refine g_iload_n d_H_tryRows_20 rfl ?_
    refine g_ald (t := 1) d_H_tryRows_21 rfl rfl (by decide) rfl ?_
    refine g_iload_n d_H_tryRows_22 rfl ?_
    refine g_callV2V d_H_tryRows_23 ml_H_28 vk_H_weigh rfl ⟨_, rfl, rfl⟩ rfl rfl (Nat.le_of_ble_eq_true rfl) (w_H_weigh (X := X) (d := d + 5) rfl rfl rfl _ _) (fun q7 => ?_)
    exact g_return d_H_tryRows_26 rfl rfl
def f_S_best (p1 p2 : Int32) (S : St) : Option (Int32 × St) := (if p1 < 1 then ((f_S_finding 0 S).bind fun q2 => some (q2.1, q2.2)) else (if 3 < p1 then ((f_S_finding 0 S).bind fun q4 => some (q4.1, q4.2)) else (if p2 < 0 then ((f_S_finding 0 S).bind fun q6 => some (q6.1, q6.2)) else (if p2 ≤ 2 then ((f_H_begin S).bind fun q8 => ((f_H_tryRows_0 p1 0 q8).bind fun q9 => (if (q9 24 1) = 0 then ((f_S_finding 3 q9).bind fun q13 => some (q13.1, q13.2)) else (if p2 = 0 then some ((q9 24 2), q9) else (if p2 = 1 then some ((q9 24 3), q9) else some ((q9 24 4), q9)))))) else ((f_S_finding 0 S).bind fun q14 => some (q14.1, q14.2))))))
set_option maxRecDepth 4000 in
theorem w_S_best {X : xC} {d : Nat}  (p1 p2 : Int32) (S : St) : SemG eI X k_S_best (d + 8) 0 [some (.ref (xB X + 0)), some (.int p1), some (.int p2)] [] S (f_S_best  p1 p2 S) := by
  unfold f_S_best
  refine g_iload_n d_S_best_0 rfl ?_
  refine g_iconst d_S_best_1 ?_
  refine s_icmp_lt d_S_best_2 (fun u1 => ?_) (fun u1 => ?_)
  · refine g_aload_n d_S_best_19 rfl ?_
    refine g_iconst d_S_best_20 ?_
    refine g_callV1I d_S_best_21 ml_S_67 vk_S_finding rfl ⟨_, rfl, rfl⟩ rfl (Nat.le_of_ble_eq_true rfl) (w_S_finding (X := X) (d := d + 7) _ _) (fun q2 => ?_)
    exact g_ireturn d_S_best_24 rfl rfl rfl
  · refine g_iload_n d_S_best_5 rfl ?_
    refine g_iconst d_S_best_6 ?_
    refine s_icmp_gt d_S_best_7 (fun u3 => ?_) (fun u3 => ?_)
    · refine g_aload_n d_S_best_19 rfl ?_
      refine g_iconst d_S_best_20 ?_
      refine g_callV1I d_S_best_21 ml_S_67 vk_S_finding rfl ⟨_, rfl, rfl⟩ rfl (Nat.le_of_ble_eq_true rfl) (w_S_finding (X := X) (d := d + 7) _ _) (fun q4 => ?_)
      exact g_ireturn d_S_best_24 rfl rfl rfl
    · refine g_iload_n d_S_best_10 rfl ?_
      refine s_if_lt d_S_best_11 (fun u5 => ?_) (fun u5 => ?_)
      · refine g_aload_n d_S_best_19 rfl ?_
        refine g_iconst d_S_best_20 ?_
        refine g_callV1I d_S_best_21 ml_S_67 vk_S_finding rfl ⟨_, rfl, rfl⟩ rfl (Nat.le_of_ble_eq_true rfl) (w_S_finding (X := X) (d := d + 7) _ _) (fun q6 => ?_)
        exact g_ireturn d_S_best_24 rfl rfl rfl
      · refine g_iload_n d_S_best_14 rfl ?_
        refine g_iconst d_S_best_15 ?_
        refine s_icmp_le d_S_best_16 (fun u7 => ?_) (fun u7 => ?_)
        · refine g_aload_n d_S_best_25 rfl ?_
          refine g_getR d_S_best_26 fl_S_42 rfl rfl ?_
          refine g_aload_n d_S_best_29 rfl ?_
          refine g_getR d_S_best_30 fl_S_26 rfl rfl ?_
          refine g_callV1V d_S_best_33 ml_S_161 vk_H_begin rfl ⟨_, rfl, rfl⟩ rfl (Nat.le_of_ble_eq_true rfl) (w_H_begin (X := X) (d := d + 5) _) (fun q8 => ?_)
          refine g_aload_n d_S_best_36 rfl ?_
          refine g_getR d_S_best_37 fl_S_42 rfl rfl ?_
          refine g_iconst d_S_best_40 ?_
          refine g_iload_n d_S_best_41 rfl ?_
          refine g_iconst d_S_best_42 ?_
          refine g_callN4V d_S_best_43 nl_S_164 sk_H_tryRows rfl rfl rfl rfl (Nat.le_of_ble_eq_true rfl) (w_H_tryRows_0 (X := X) (d := d) _ _ _) (fun q9 => ?_)
          refine g_aload_n d_S_best_46 rfl ?_
          refine g_getR d_S_best_47 fl_S_42 rfl rfl ?_
          refine g_getI d_S_best_50 fl_S_168 rfl rfl ?_
          refine s_if_ne d_S_best_53 (fun u10 => ?_) (fun u10 => ?_)
          · refine g_iload_n d_S_best_62 rfl ?_
            refine g_ite (fun u11 => ?_) (fun u11 => ?_)
            · refine g_lcase (off := 25) (tgt := 88) d_S_best_63 u11 (by decide) ?_
              refine g_aload_n d_S_best_88 rfl ?_
              refine g_getR d_S_best_89 fl_S_42 rfl rfl ?_
              refine g_getI d_S_best_92 fl_S_172 rfl rfl ?_
              exact g_ireturn d_S_best_95 rfl rfl rfl
            refine g_ite (fun u12 => ?_) (fun u12 => ?_)
            · refine g_lcase (off := 33) (tgt := 96) d_S_best_63 u12 (by decide) ?_
              refine g_aload_n d_S_best_96 rfl ?_
              refine g_getR d_S_best_97 fl_S_42 rfl rfl ?_
              refine g_getI d_S_best_100 fl_S_175 rfl rfl ?_
              exact g_ireturn d_S_best_103 rfl rfl rfl
            refine g_ldef2 (tgt := 104) d_S_best_63 (ne32 u11 (by decide)) (ne32 u12 (by decide)) (by decide) (by decide) ?_
            refine g_aload_n d_S_best_104 rfl ?_
            refine g_getR d_S_best_105 fl_S_42 rfl rfl ?_
            refine g_getI d_S_best_108 fl_S_178 rfl rfl ?_
            exact g_ireturn d_S_best_111 rfl rfl rfl
          · refine g_aload_n d_S_best_56 rfl ?_
            refine g_iconst d_S_best_57 ?_
            refine g_callV1I d_S_best_58 ml_S_67 vk_S_finding rfl ⟨_, rfl, rfl⟩ rfl (Nat.le_of_ble_eq_true rfl) (w_S_finding (X := X) (d := d + 7) _ _) (fun q13 => ?_)
            exact g_ireturn d_S_best_61 rfl rfl rfl
        · refine g_aload_n d_S_best_19 rfl ?_
          refine g_iconst d_S_best_20 ?_
          refine g_callV1I d_S_best_21 ml_S_67 vk_S_finding rfl ⟨_, rfl, rfl⟩ rfl (Nat.le_of_ble_eq_true rfl) (w_S_finding (X := X) (d := d + 7) _ _) (fun q14 => ?_)
          exact g_ireturn d_S_best_24 rfl rfl rfl
def f_S_airFor_L15 : Nat → Int32 → Int32 → St → Option (Int32 × St)
  | 0, _, _, _ => none
  | n + 1, y1, y2, S => (if 9 < y2 then ((f_S_finding 3 S).bind fun q4 => some (q4.1, q4.2)) else (if inb y1 40 = true then ((f_L_gripOf 2 3 4 (S 3 (y1).toNatClampNeg) y2 S).bind fun q6 => ((f_L_weight 2 3 4 q6.2).bind fun q7 => (if q6.1 < q7.1 then f_S_airFor_L15   n y1 (y2 + 1) q7.2 else some (y2, q7.2)))) else none))
set_option maxRecDepth 4000 in
theorem w_S_airFor_L15 {X : xC} {d : Nat}   : ∀ (n : Nat) (y1 : Int32) (y2 : Int32) (S : St), SemG eI X k_S_airFor (d + 2) 15 [some (.ref (xB X + 0)), some (.int y1), some (.int y2)] [] S (f_S_airFor_L15   n y1 y2 S) := by
  intro n
  induction n with
  | zero => intro _ _ _; exact g_none
  | succ n ih =>
    intro y1 y2 S
    unfold f_S_airFor_L15
    refine g_iload_n d_S_airFor_15 rfl ?_
    refine g_bipush d_S_airFor_16 ?_
    refine s_icmp_gt d_S_airFor_18 (fun u3 => ?_) (fun u3 => ?_)
    · refine g_aload_n d_S_airFor_56 rfl ?_
      refine g_iconst d_S_airFor_57 ?_
      refine g_callV1I d_S_airFor_58 ml_S_67 vk_S_finding rfl ⟨_, rfl, rfl⟩ rfl (Nat.le_of_ble_eq_true rfl) (w_S_finding (X := X) (d := d + 1) _ _) (fun q4 => ?_)
      exact g_ireturn d_S_airFor_61 rfl rfl rfl
    · refine g_aload_n d_S_airFor_21 rfl ?_
      refine g_getR d_S_airFor_22 fl_S_26 rfl rfl ?_
      refine g_aload_n d_S_airFor_25 rfl ?_
      refine g_getR d_S_airFor_26 fl_S_10 rfl rfl ?_
      refine g_getR d_S_airFor_29 fl_S_29 rfl rfl ?_
      refine g_iload_n d_S_airFor_32 rfl ?_
      refine g_guard (fun hb5 => ?_)
      refine g_ild d_S_airFor_33 rfl hb5 rfl ?_
      refine g_iload_n d_S_airFor_34 rfl ?_
      refine g_callV2I d_S_airFor_35 ml_S_74 vk_L_gripOf rfl ⟨_, rfl, rfl⟩ rfl rfl (Nat.le_of_ble_eq_true rfl) (w_L_gripOf (X := X) (d := d) rfl rfl rfl _ _ _) (fun q6 => ?_)
      refine g_aload_n d_S_airFor_38 rfl ?_
      refine g_getR d_S_airFor_39 fl_S_26 rfl rfl ?_
      refine g_callV0I d_S_airFor_42 ml_S_91 vk_L_weight rfl ⟨_, rfl, rfl⟩ (Nat.le_of_ble_eq_true rfl) (w_L_weight (X := X) (d := d) rfl rfl rfl _) (fun q7 => ?_)
      refine s_icmp_lt d_S_airFor_45 (fun u8 => ?_) (fun u8 => ?_)
      · refine g_iinc d_S_airFor_50 (by decide) rfl ?_
        refine g_goto d_S_airFor_53 ?_
        exact ih _ _ _
      · refine g_iload_n d_S_airFor_48 rfl ?_
        exact g_ireturn d_S_airFor_49 rfl rfl rfl
def f_S_airFor (p1 : Int32) (S : St) : Option (Int32 × St) := ((f_S_isYard p1 S).bind fun q1 => (if (bI q1.1) = 0 then ((f_S_finding 0 q1.2).bind fun q9 => some (q9.1, q9.2)) else f_S_airFor_L15   200 p1 0 q1.2))
set_option maxRecDepth 4000 in
theorem w_S_airFor {X : xC} {d : Nat}  (p1 : Int32) (S : St) : SemG eI X k_S_airFor (d + 2) 0 [some (.ref (xB X + 0)), some (.int p1), none] [] S (f_S_airFor  p1 S) := by
  unfold f_S_airFor
  refine g_iload_n d_S_airFor_0 rfl ?_
  refine g_callS1B d_S_airFor_1 ml_S_63 sk_S_isYard rfl (Nat.le_of_ble_eq_true rfl) (w_S_isYard (X := X) (d := d + 1) _ _) (fun q1 => ?_)
  refine s_if_ne d_S_airFor_4 (fun u2 => ?_) (fun u2 => ?_)
  · refine g_iconst d_S_airFor_13 ?_
    refine g_istore_n d_S_airFor_14 (by decide) ?_
    exact w_S_airFor_L15 (X := X) (d := d) 200 _ _ _
  · refine g_aload_n d_S_airFor_7 rfl ?_
    refine g_iconst d_S_airFor_8 ?_
    refine g_callV1I d_S_airFor_9 ml_S_67 vk_S_finding rfl ⟨_, rfl, rfl⟩ rfl (Nat.le_of_ble_eq_true rfl) (w_S_finding (X := X) (d := d + 1) _ _) (fun q9 => ?_)
    exact g_ireturn d_S_airFor_12 rfl rfl rfl
def f_S_sacksFor_L42 : Nat → Int32 → Int32 → Int32 → St → Option (Int32 × St)
  | 0, _, _, _, _ => none
  | n + 1, y1, y2, y3, S => (if y3 < 0 then ((f_S_finding 3 S).bind fun q6 => some (q6.1, q6.2)) else ((f_S_weightOf y3 0 S).bind fun q7 => (if y2 < q7.1 then f_S_sacksFor_L42   n y1 y2 (y3 + (-1)) q7.2 else some (y3, q7.2))))
set_option maxRecDepth 4000 in
theorem w_S_sacksFor_L42 {X : xC} {d : Nat}   : ∀ (n : Nat) (y1 : Int32) (y2 : Int32) (y3 : Int32) (S : St), SemG eI X k_S_sacksFor (d + 2) 42 [some (.ref (xB X + 0)), some (.int y1), some (.int y2), some (.int y3)] [] S (f_S_sacksFor_L42   n y1 y2 y3 S) := by
  intro n
  induction n with
  | zero => intro _ _ _ _; exact g_none
  | succ n ih =>
    intro y1 y2 y3 S
    unfold f_S_sacksFor_L42
    refine g_iload_n d_S_sacksFor_42 rfl ?_
    refine s_if_lt d_S_sacksFor_43 (fun u5 => ?_) (fun u5 => ?_)
    · refine g_aload_n d_S_sacksFor_63 rfl ?_
      refine g_iconst d_S_sacksFor_64 ?_
      refine g_callV1I d_S_sacksFor_65 ml_S_67 vk_S_finding rfl ⟨_, rfl, rfl⟩ rfl (Nat.le_of_ble_eq_true rfl) (w_S_finding (X := X) (d := d + 1) _ _) (fun q6 => ?_)
      exact g_ireturn d_S_sacksFor_68 rfl rfl rfl
    · refine g_iload_n d_S_sacksFor_46 rfl ?_
      refine g_iload_n d_S_sacksFor_47 rfl ?_
      refine g_iconst d_S_sacksFor_48 ?_
      refine g_callS2I d_S_sacksFor_49 ml_S_181 sk_S_weightOf rfl rfl (Nat.le_of_ble_eq_true rfl) (w_S_weightOf (X := X) (d := d + 1) _ _ _) (fun q7 => ?_)
      refine s_icmp_lt d_S_sacksFor_52 (fun u8 => ?_) (fun u8 => ?_)
      · refine g_iinc d_S_sacksFor_57 (by decide) rfl ?_
        refine g_goto d_S_sacksFor_60 ?_
        exact ih _ _ _ _
      · refine g_iload_n d_S_sacksFor_55 rfl ?_
        exact g_ireturn d_S_sacksFor_56 rfl rfl rfl
def f_S_sacksFor (p1 : Int32) (S : St) : Option (Int32 × St) := ((f_S_isYard p1 S).bind fun q1 => (if (bI q1.1) = 0 then ((f_S_finding 0 q1.2).bind fun q9 => some (q9.1, q9.2)) else (if inb p1 40 = true then ((f_L_gripOf 2 3 4 (q1.2 3 (p1).toNatClampNeg) (q1.2 4 3) q1.2).bind fun q4 => f_S_sacksFor_L42   200 p1 q4.1 99 q4.2) else none)))
set_option maxRecDepth 4000 in
theorem w_S_sacksFor {X : xC} {d : Nat}  (p1 : Int32) (S : St) : SemG eI X k_S_sacksFor (d + 2) 0 [some (.ref (xB X + 0)), some (.int p1), none, none] [] S (f_S_sacksFor  p1 S) := by
  unfold f_S_sacksFor
  refine g_iload_n d_S_sacksFor_0 rfl ?_
  refine g_callS1B d_S_sacksFor_1 ml_S_63 sk_S_isYard rfl (Nat.le_of_ble_eq_true rfl) (w_S_isYard (X := X) (d := d + 1) _ _) (fun q1 => ?_)
  refine s_if_ne d_S_sacksFor_4 (fun u2 => ?_) (fun u2 => ?_)
  · refine g_aload_n d_S_sacksFor_13 rfl ?_
    refine g_getR d_S_sacksFor_14 fl_S_26 rfl rfl ?_
    refine g_aload_n d_S_sacksFor_17 rfl ?_
    refine g_getR d_S_sacksFor_18 fl_S_10 rfl rfl ?_
    refine g_getR d_S_sacksFor_21 fl_S_29 rfl rfl ?_
    refine g_iload_n d_S_sacksFor_24 rfl ?_
    refine g_guard (fun hb3 => ?_)
    refine g_ild d_S_sacksFor_25 rfl hb3 rfl ?_
    refine g_aload_n d_S_sacksFor_26 rfl ?_
    refine g_getR d_S_sacksFor_27 fl_S_26 rfl rfl ?_
    refine g_getR d_S_sacksFor_30 fl_S_71 rfl rfl ?_
    refine g_iconst d_S_sacksFor_33 ?_
    refine g_ild d_S_sacksFor_34 rfl il_3_10.1 il_3_10.2 ?_
    refine g_callV2I d_S_sacksFor_35 ml_S_74 vk_L_gripOf rfl ⟨_, rfl, rfl⟩ rfl rfl (Nat.le_of_ble_eq_true rfl) (w_L_gripOf (X := X) (d := d) rfl rfl rfl _ _ _) (fun q4 => ?_)
    refine g_istore_n d_S_sacksFor_38 (by decide) ?_
    refine g_bipush d_S_sacksFor_39 ?_
    refine g_istore_n d_S_sacksFor_41 (by decide) ?_
    exact w_S_sacksFor_L42 (X := X) (d := d) 200 _ _ _ _
  · refine g_aload_n d_S_sacksFor_7 rfl ?_
    refine g_iconst d_S_sacksFor_8 ?_
    refine g_callV1I d_S_sacksFor_9 ml_S_67 vk_S_finding rfl ⟨_, rfl, rfl⟩ rfl (Nat.le_of_ble_eq_true rfl) (w_S_finding (X := X) (d := d + 1) _ _) (fun q9 => ?_)
    exact g_ireturn d_S_sacksFor_12 rfl rfl rfl
def f_S_waterFor (S : St) : Option (Int32 × St) := ((f_L_become 22 3 23 2 3 4 S).bind fun q1 => let S2 := put q1 23 6 9999; ((f_C_planDoneBy 22 3 23 S2).bind fun q3 => (if (q3.2 1 5) ≤ q3.1 then ((f_L_since 22 3 23 2 3 4 8 q3.2).bind fun q5 => some (q5.1, q5.2)) else ((f_S_finding 3 q3.2).bind fun q6 => some (q6.1, q6.2)))))
set_option maxRecDepth 4000 in
theorem w_S_waterFor {X : xC} {d : Nat}  (S : St) : SemG eI X k_S_waterFor (d + 7) 0 [some (.ref (xB X + 0))] [] S (f_S_waterFor   S) := by
  unfold f_S_waterFor
  refine g_aload_n d_S_waterFor_0 rfl ?_
  refine g_getR d_S_waterFor_1 fl_S_36 rfl rfl ?_
  refine g_aload_n d_S_waterFor_4 rfl ?_
  refine g_getR d_S_waterFor_5 fl_S_26 rfl rfl ?_
  refine g_callV1V d_S_waterFor_8 ml_S_122 vk_L_become rfl ⟨_, rfl, rfl⟩ rfl (Nat.le_of_ble_eq_true rfl) (w_L_become (X := X) (d := d + 5) rfl rfl rfl rfl rfl rfl _) (fun q1 => ?_)
  refine g_aload_n d_S_waterFor_11 rfl ?_
  refine g_getR d_S_waterFor_12 fl_S_36 rfl rfl ?_
  refine g_getR d_S_waterFor_15 fl_S_71 rfl rfl ?_
  refine g_bipush d_S_waterFor_18 ?_
  refine g_sipush d_S_waterFor_20 ?_
  refine g_ist d_S_waterFor_23 rfl il_6_10.1 il_6_10.2 ?_
  refine g_aload_n d_S_waterFor_24 rfl ?_
  refine g_getR d_S_waterFor_25 fl_S_10 rfl rfl ?_
  refine g_aload_n d_S_waterFor_28 rfl ?_
  refine g_getR d_S_waterFor_29 fl_S_36 rfl rfl ?_
  refine g_callV1I d_S_waterFor_32 ml_S_157 vk_C_planDoneBy rfl ⟨_, rfl, rfl⟩ rfl (Nat.le_of_ble_eq_true rfl) (w_C_planDoneBy (X := X) (d := d) rfl rfl rfl _) (fun q3 => ?_)
  refine g_aload_n d_S_waterFor_35 rfl ?_
  refine g_getR d_S_waterFor_36 fl_S_10 rfl rfl ?_
  refine g_getI d_S_waterFor_39 fl_S_151 rfl rfl ?_
  refine s_icmp_ge d_S_waterFor_42 (fun u4 => ?_) (fun u4 => ?_)
  · refine g_aload_n d_S_waterFor_51 rfl ?_
    refine g_getR d_S_waterFor_52 fl_S_36 rfl rfl ?_
    refine g_aload_n d_S_waterFor_55 rfl ?_
    refine g_getR d_S_waterFor_56 fl_S_26 rfl rfl ?_
    refine g_bipush d_S_waterFor_59 ?_
    refine g_callV2I d_S_waterFor_61 ml_S_126 vk_L_since rfl ⟨_, rfl, rfl⟩ rfl rfl (Nat.le_of_ble_eq_true rfl) (w_L_since (X := X) (d := d + 6) rfl rfl rfl rfl rfl rfl _ _) (fun q5 => ?_)
    exact g_ireturn d_S_waterFor_64 rfl rfl rfl
  · refine g_aload_n d_S_waterFor_45 rfl ?_
    refine g_iconst d_S_waterFor_46 ?_
    refine g_callV1I d_S_waterFor_47 ml_S_67 vk_S_finding rfl ⟨_, rfl, rfl⟩ rfl (Nat.le_of_ble_eq_true rfl) (w_S_finding (X := X) (d := d + 6) _ _) (fun q6 => ?_)
    exact g_ireturn d_S_waterFor_50 rfl rfl rfl
def f_S_boardsFor_L19 : Nat → Int32 → Int32 → St → Option (Int32 × St)
  | 0, _, _, _ => none
  | n + 1, y1, y2, S => (if 8 < y2 then ((f_S_finding 3 S).bind fun q5 => some (q5.1, q5.2)) else ((f_L_become 22 3 23 2 3 4 S).bind fun q6 => let S7 := put q6 23 4 y2; ((f_L_carriesOut 22 3 23 2 S7).bind fun q8 => (if (bI q8.1) = 0 then f_S_boardsFor_L19   n y1 (y2 + 1) q8.2 else ((f_L_since 22 3 23 2 3 4 0 q8.2).bind fun q10 => (if q10.1 < y1 then f_S_boardsFor_L19   n y1 (y2 + 1) q10.2 else some (y2, q10.2)))))))
set_option maxRecDepth 4000 in
theorem w_S_boardsFor_L19 {X : xC} {d : Nat}   : ∀ (n : Nat) (y1 : Int32) (y2 : Int32) (S : St), SemG eI X k_S_boardsFor (d + 5) 19 [some (.ref (xB X + 0)), some (.int y1), some (.int y2)] [] S (f_S_boardsFor_L19   n y1 y2 S) := by
  intro n
  induction n with
  | zero => intro _ _ _; exact g_none
  | succ n ih =>
    intro y1 y2 S
    unfold f_S_boardsFor_L19
    refine g_iload_n d_S_boardsFor_19 rfl ?_
    refine g_bipush d_S_boardsFor_20 ?_
    refine s_icmp_gt d_S_boardsFor_22 (fun u4 => ?_) (fun u4 => ?_)
    · refine g_aload_n d_S_boardsFor_81 rfl ?_
      refine g_iconst d_S_boardsFor_82 ?_
      refine g_callV1I d_S_boardsFor_83 ml_S_67 vk_S_finding rfl ⟨_, rfl, rfl⟩ rfl (Nat.le_of_ble_eq_true rfl) (w_S_finding (X := X) (d := d + 4) _ _) (fun q5 => ?_)
      exact g_ireturn d_S_boardsFor_86 rfl rfl rfl
    · refine g_aload_n d_S_boardsFor_25 rfl ?_
      refine g_getR d_S_boardsFor_26 fl_S_36 rfl rfl ?_
      refine g_aload_n d_S_boardsFor_29 rfl ?_
      refine g_getR d_S_boardsFor_30 fl_S_26 rfl rfl ?_
      refine g_callV1V d_S_boardsFor_33 ml_S_122 vk_L_become rfl ⟨_, rfl, rfl⟩ rfl (Nat.le_of_ble_eq_true rfl) (w_L_become (X := X) (d := d + 3) rfl rfl rfl rfl rfl rfl _) (fun q6 => ?_)
      refine g_aload_n d_S_boardsFor_36 rfl ?_
      refine g_getR d_S_boardsFor_37 fl_S_36 rfl rfl ?_
      refine g_getR d_S_boardsFor_40 fl_S_71 rfl rfl ?_
      refine g_iconst d_S_boardsFor_43 ?_
      refine g_iload_n d_S_boardsFor_44 rfl ?_
      refine g_ist d_S_boardsFor_45 rfl il_4_10.1 il_4_10.2 ?_
      refine g_aload_n d_S_boardsFor_46 rfl ?_
      refine g_getR d_S_boardsFor_47 fl_S_36 rfl rfl ?_
      refine g_iconst d_S_boardsFor_50 ?_
      refine g_callV1B d_S_boardsFor_51 ml_S_119 vk_L_carriesOut rfl ⟨_, rfl, rfl⟩ rfl (Nat.le_of_ble_eq_true rfl) (w_L_carriesOut (X := X) (d := d) rfl rfl rfl _ _) (fun q8 => ?_)
      refine s_if_eq d_S_boardsFor_54 (fun u9 => ?_) (fun u9 => ?_)
      · refine g_iinc d_S_boardsFor_75 (by decide) rfl ?_
        refine g_goto d_S_boardsFor_78 ?_
        exact ih _ _ _
      · refine g_aload_n d_S_boardsFor_57 rfl ?_
        refine g_getR d_S_boardsFor_58 fl_S_36 rfl rfl ?_
        refine g_aload_n d_S_boardsFor_61 rfl ?_
        refine g_getR d_S_boardsFor_62 fl_S_26 rfl rfl ?_
        refine g_iconst d_S_boardsFor_65 ?_
        refine g_callV2I d_S_boardsFor_66 ml_S_126 vk_L_since rfl ⟨_, rfl, rfl⟩ rfl rfl (Nat.le_of_ble_eq_true rfl) (w_L_since (X := X) (d := d + 4) rfl rfl rfl rfl rfl rfl _ _) (fun q10 => ?_)
        refine g_iload_n d_S_boardsFor_69 rfl ?_
        refine s_icmp_lt d_S_boardsFor_70 (fun u11 => ?_) (fun u11 => ?_)
        · refine g_iinc d_S_boardsFor_75 (by decide) rfl ?_
          refine g_goto d_S_boardsFor_78 ?_
          exact ih _ _ _
        · refine g_iload_n d_S_boardsFor_73 rfl ?_
          exact g_ireturn d_S_boardsFor_74 rfl rfl rfl
def f_S_boardsFor (p1 : Int32) (S : St) : Option (Int32 × St) := (if p1 < 1 then ((f_S_finding 0 S).bind fun q2 => some (q2.1, q2.2)) else (if p1 ≤ 9 then f_S_boardsFor_L19   200 p1 0 S else ((f_S_finding 0 S).bind fun q12 => some (q12.1, q12.2))))
set_option maxRecDepth 4000 in
theorem w_S_boardsFor {X : xC} {d : Nat}  (p1 : Int32) (S : St) : SemG eI X k_S_boardsFor (d + 5) 0 [some (.ref (xB X + 0)), some (.int p1), none] [] S (f_S_boardsFor  p1 S) := by
  unfold f_S_boardsFor
  refine g_iload_n d_S_boardsFor_0 rfl ?_
  refine g_iconst d_S_boardsFor_1 ?_
  refine s_icmp_lt d_S_boardsFor_2 (fun u1 => ?_) (fun u1 => ?_)
  · refine g_aload_n d_S_boardsFor_11 rfl ?_
    refine g_iconst d_S_boardsFor_12 ?_
    refine g_callV1I d_S_boardsFor_13 ml_S_67 vk_S_finding rfl ⟨_, rfl, rfl⟩ rfl (Nat.le_of_ble_eq_true rfl) (w_S_finding (X := X) (d := d + 4) _ _) (fun q2 => ?_)
    exact g_ireturn d_S_boardsFor_16 rfl rfl rfl
  · refine g_iload_n d_S_boardsFor_5 rfl ?_
    refine g_bipush d_S_boardsFor_6 ?_
    refine s_icmp_le d_S_boardsFor_8 (fun u3 => ?_) (fun u3 => ?_)
    · refine g_iconst d_S_boardsFor_17 ?_
      refine g_istore_n d_S_boardsFor_18 (by decide) ?_
      exact w_S_boardsFor_L19 (X := X) (d := d) 200 _ _ _
    · refine g_aload_n d_S_boardsFor_11 rfl ?_
      refine g_iconst d_S_boardsFor_12 ?_
      refine g_callV1I d_S_boardsFor_13 ml_S_67 vk_S_finding rfl ⟨_, rfl, rfl⟩ rfl (Nat.le_of_ble_eq_true rfl) (w_S_finding (X := X) (d := d + 4) _ _) (fun q12 => ?_)
      exact g_ireturn d_S_boardsFor_16 rfl rfl rfl
def f_S_way (S : St) : Option (Int32 × St) := ((f_S_timesTillOut 0 20 S).bind fun q1 => ((f_S_timesTillOut 6 20 q1.2).bind fun q2 => (if 0 ≤ q1.1 then let x7 : Int32 := (if q2.1 < 0 then 1 else (if q1.1 < 0 then (-1) else (if q2.1 < q1.1 then (-1) else 1))); some (x7, q2.2) else (if 0 ≤ q2.1 then let x12 : Int32 := (if q2.1 < 0 then 1 else (if q1.1 < 0 then (-1) else (if q2.1 < q1.1 then (-1) else 1))); some (x12, q2.2) else some (0, q2.2)))))
set_option maxRecDepth 4000 in
theorem w_S_way {X : xC} {d : Nat}  (S : St) : SemG eI X k_S_way (d + 6) 0 [some (.ref (xB X + 0)), none, none] [] S (f_S_way   S) := by
  unfold f_S_way
  refine g_aload_n d_S_way_0 rfl ?_
  refine g_iconst d_S_way_1 ?_
  refine g_bipush d_S_way_2 ?_
  refine g_callV2I d_S_way_4 ml_S_130 vk_S_timesTillOut rfl ⟨_, rfl, rfl⟩ rfl rfl (Nat.le_of_ble_eq_true rfl) (w_S_timesTillOut (X := X) (d := d) _ _ _) (fun q1 => ?_)
  refine g_istore_n d_S_way_7 (by decide) ?_
  refine g_aload_n d_S_way_8 rfl ?_
  refine g_bipush d_S_way_9 ?_
  refine g_bipush d_S_way_11 ?_
  refine g_callV2I d_S_way_13 ml_S_130 vk_S_timesTillOut rfl ⟨_, rfl, rfl⟩ rfl rfl (Nat.le_of_ble_eq_true rfl) (w_S_timesTillOut (X := X) (d := d) _ _ _) (fun q2 => ?_)
  refine g_istore_n d_S_way_16 (by decide) ?_
  refine g_iload_n d_S_way_17 rfl ?_
  refine s_if_ge d_S_way_18 (fun u3 => ?_) (fun u3 => ?_)
  · refine g_iload_n d_S_way_27 rfl ?_
    refine m_if_lt d_S_way_28 (fun hJ6 => g_iconst d_S_way_40 (g_goto d_S_way_41 hJ6)) (fun hJ6 => g_iload_n d_S_way_31 rfl (m_if_lt d_S_way_32 (fun hJ5 => g_iconst d_S_way_44 hJ5) (fun hJ5 => g_iload_n d_S_way_35 rfl (g_iload_n d_S_way_36 rfl (m_icmp_gt d_S_way_37 (fun hJ4 => g_iconst d_S_way_44 hJ4) (fun hJ4 => g_iconst d_S_way_40 (g_goto d_S_way_41 hJ4)) hJ5))) hJ6)) ?_
    exact g_ireturn d_S_way_45 rfl rfl rfl
  · refine g_iload_n d_S_way_21 rfl ?_
    refine s_if_ge d_S_way_22 (fun u8 => ?_) (fun u8 => ?_)
    · refine g_iload_n d_S_way_27 rfl ?_
      refine m_if_lt d_S_way_28 (fun hJ11 => g_iconst d_S_way_40 (g_goto d_S_way_41 hJ11)) (fun hJ11 => g_iload_n d_S_way_31 rfl (m_if_lt d_S_way_32 (fun hJ10 => g_iconst d_S_way_44 hJ10) (fun hJ10 => g_iload_n d_S_way_35 rfl (g_iload_n d_S_way_36 rfl (m_icmp_gt d_S_way_37 (fun hJ9 => g_iconst d_S_way_44 hJ9) (fun hJ9 => g_iconst d_S_way_40 (g_goto d_S_way_41 hJ9)) hJ10))) hJ11)) ?_
      exact g_ireturn d_S_way_45 rfl rfl rfl
    · refine g_iconst d_S_way_25 ?_
      exact g_ireturn d_S_way_26 rfl rfl rfl
def f_S_odds_L37 : Nat → Int32 → Int32 → Int32 → St → Option (Int32 × St)
  | 0, _, _, _, _ => none
  | n + 1, y1, y2, y3, S => (if y1 ≤ y3 then some (y2, S) else ((f_C_draw S).bind fun q7 => let x8 : Int32 := (q7.1 - q7.1 / 100 * 100); ((f_L_gripOf 2 3 4 x8 (q7.2 4 3) q7.2).bind fun q9 => ((f_L_weight 2 3 4 q9.2).bind fun q10 => (if q9.1 < q10.1 then f_S_odds_L37   n y1 y2 (y3 + 1) q10.2 else f_S_odds_L37   n y1 (y2 + 1) (y3 + 1) q10.2)))))
set_option maxRecDepth 4000 in
theorem w_S_odds_L37 {X : xC} {d : Nat}   : ∀ (n : Nat) (y1 : Int32) (y2 : Int32) (y3 : Int32) (S : St), SemG eI X k_S_odds (d + 2) 37 [some (.ref (xB X + 0)), some (.int y1), some (.int y2), some (.int y3), none] [] S (f_S_odds_L37   n y1 y2 y3 S) := by
  intro n
  induction n with
  | zero => intro _ _ _ _; exact g_none
  | succ n ih =>
    intro y1 y2 y3 S
    unfold f_S_odds_L37
    refine g_iload_n d_S_odds_37 rfl ?_
    refine g_iload_n d_S_odds_38 rfl ?_
    refine s_icmp_ge d_S_odds_39 (fun u6 => ?_) (fun u6 => ?_)
    · refine g_iload_n d_S_odds_91 rfl ?_
      exact g_ireturn d_S_odds_92 rfl rfl rfl
    · refine g_aload_n d_S_odds_42 rfl ?_
      refine g_getR d_S_odds_43 fl_S_10 rfl rfl ?_
      refine g_callV0I d_S_odds_46 ml_S_98 vk_C_draw rfl ⟨_, rfl, rfl⟩ (Nat.le_of_ble_eq_true rfl) (w_C_draw (X := X) (d := d + 1) _) (fun q7 => ?_)
      refine g_bipush d_S_odds_49 ?_
      refine g_irem d_S_odds_51 (by decide) ?_
      refine g_istore d_S_odds_52 (by decide) ?_
      refine g_aload_n d_S_odds_54 rfl ?_
      refine g_getR d_S_odds_55 fl_S_26 rfl rfl ?_
      refine g_iload d_S_odds_58 rfl ?_
      refine g_aload_n d_S_odds_60 rfl ?_
      refine g_getR d_S_odds_61 fl_S_26 rfl rfl ?_
      refine g_getR d_S_odds_64 fl_S_71 rfl rfl ?_
      refine g_iconst d_S_odds_67 ?_
      refine g_ild d_S_odds_68 rfl il_3_10.1 il_3_10.2 ?_
      refine g_callV2I d_S_odds_69 ml_S_74 vk_L_gripOf rfl ⟨_, rfl, rfl⟩ rfl rfl (Nat.le_of_ble_eq_true rfl) (w_L_gripOf (X := X) (d := d) rfl rfl rfl _ _ _) (fun q9 => ?_)
      refine g_aload_n d_S_odds_72 rfl ?_
      refine g_getR d_S_odds_73 fl_S_26 rfl rfl ?_
      refine g_callV0I d_S_odds_76 ml_S_91 vk_L_weight rfl ⟨_, rfl, rfl⟩ (Nat.le_of_ble_eq_true rfl) (w_L_weight (X := X) (d := d) rfl rfl rfl _) (fun q10 => ?_)
      refine s_icmp_lt d_S_odds_79 (fun u11 => ?_) (fun u11 => ?_)
      · refine g_iinc d_S_odds_85 (by decide) rfl ?_
        refine g_goto d_S_odds_88 ?_
        refine g_drop 4 ?_
        exact ih _ _ _ _
      · refine g_iinc d_S_odds_82 (by decide) rfl ?_
        refine g_iinc d_S_odds_85 (by decide) rfl ?_
        refine g_goto d_S_odds_88 ?_
        refine g_drop 4 ?_
        exact ih _ _ _ _
def f_S_odds (p1 : Int32) (S : St) : Option (Int32 × St) := (if p1 < 1 then ((f_S_finding 0 S).bind fun q2 => some (q2.1, q2.2)) else (if p1 ≤ 20 then ((f_L_isOut 2 3 4 S).bind fun q4 => (if (bI q4.1) = 0 then f_S_odds_L37   200 p1 0 0 q4.2 else ((f_S_finding 4 q4.2).bind fun q12 => some (q12.1, q12.2)))) else ((f_S_finding 0 S).bind fun q13 => some (q13.1, q13.2))))
set_option maxRecDepth 4000 in
theorem w_S_odds {X : xC} {d : Nat}  (p1 : Int32) (S : St) : SemG eI X k_S_odds (d + 2) 0 [some (.ref (xB X + 0)), some (.int p1), none, none, none] [] S (f_S_odds  p1 S) := by
  unfold f_S_odds
  refine g_iload_n d_S_odds_0 rfl ?_
  refine g_iconst d_S_odds_1 ?_
  refine s_icmp_lt d_S_odds_2 (fun u1 => ?_) (fun u1 => ?_)
  · refine g_aload_n d_S_odds_11 rfl ?_
    refine g_iconst d_S_odds_12 ?_
    refine g_callV1I d_S_odds_13 ml_S_67 vk_S_finding rfl ⟨_, rfl, rfl⟩ rfl (Nat.le_of_ble_eq_true rfl) (w_S_finding (X := X) (d := d + 1) _ _) (fun q2 => ?_)
    exact g_ireturn d_S_odds_16 rfl rfl rfl
  · refine g_iload_n d_S_odds_5 rfl ?_
    refine g_bipush d_S_odds_6 ?_
    refine s_icmp_le d_S_odds_8 (fun u3 => ?_) (fun u3 => ?_)
    · refine g_aload_n d_S_odds_17 rfl ?_
      refine g_getR d_S_odds_18 fl_S_26 rfl rfl ?_
      refine g_callV0B d_S_odds_21 ml_S_94 vk_L_isOut rfl ⟨_, rfl, rfl⟩ (Nat.le_of_ble_eq_true rfl) (w_L_isOut (X := X) (d := d) rfl rfl rfl _) (fun q4 => ?_)
      refine s_if_eq d_S_odds_24 (fun u5 => ?_) (fun u5 => ?_)
      · refine g_iconst d_S_odds_33 ?_
        refine g_istore_n d_S_odds_34 (by decide) ?_
        refine g_iconst d_S_odds_35 ?_
        refine g_istore_n d_S_odds_36 (by decide) ?_
        exact w_S_odds_L37 (X := X) (d := d) 200 _ _ _ _
      · refine g_aload_n d_S_odds_27 rfl ?_
        refine g_iconst d_S_odds_28 ?_
        refine g_callV1I d_S_odds_29 ml_S_67 vk_S_finding rfl ⟨_, rfl, rfl⟩ rfl (Nat.le_of_ble_eq_true rfl) (w_S_finding (X := X) (d := d + 1) _ _) (fun q12 => ?_)
        exact g_ireturn d_S_odds_32 rfl rfl rfl
    · refine g_aload_n d_S_odds_11 rfl ?_
      refine g_iconst d_S_odds_12 ?_
      refine g_callV1I d_S_odds_13 ml_S_67 vk_S_finding rfl ⟨_, rfl, rfl⟩ rfl (Nat.le_of_ble_eq_true rfl) (w_S_finding (X := X) (d := d + 1) _ _) (fun q13 => ?_)
      exact g_ireturn d_S_odds_16 rfl rfl rfl
def f_S_seed (p1 : Int32) (S : St) : Option (Int32 × St) := let S1 := put S 1 6 p1; some ((S 1 6), S1)
set_option maxRecDepth 4000 in
theorem w_S_seed {X : xC} {d : Nat}  (p1 : Int32) (S : St) : SemG eI X k_S_seed (d) 0 [some (.ref (xB X + 0)), some (.int p1), none] [] S (f_S_seed  p1 S) := by
  unfold f_S_seed
  refine g_aload_n d_S_seed_0 rfl ?_
  refine g_getR d_S_seed_1 fl_S_10 rfl rfl ?_
  refine g_getI d_S_seed_4 fl_S_184 rfl rfl ?_
  refine g_istore_n d_S_seed_7 (by decide) ?_
  refine g_aload_n d_S_seed_8 rfl ?_
  refine g_getR d_S_seed_9 fl_S_10 rfl rfl ?_
  refine g_iload_n d_S_seed_12 rfl ?_
  refine g_putI d_S_seed_13 fl_S_184 ⟨_, rfl, rfl⟩ rfl rfl rfl rfl ?_
  refine g_iload_n d_S_seed_16 rfl ?_
  exact g_ireturn d_S_seed_17 rfl rfl rfl
def f_S_isSpot (p1 : Int32) (S : St) : Option (Bool × St) := let x3 : Int32 := (if p1 < 0 then 0 else (if 10 ≤ p1 then 0 else 1)); some ((if p1 < 0 then false else (if 10 ≤ p1 then false else true)), S)
set_option maxRecDepth 4000 in
theorem w_S_isSpot {X : xC} {d : Nat}  (p1 : Int32) (S : St) : SemG eB X k_S_isSpot (d) 0 [some (.int p1)] [] S (f_S_isSpot  p1 S) := by
  unfold f_S_isSpot
  refine g_iload_n d_S_isSpot_0 rfl ?_
  refine m_if_lt d_S_isSpot_1 (fun hJ2 => g_iconst d_S_isSpot_14 hJ2) (fun hJ2 => g_iload_n d_S_isSpot_4 rfl (g_bipush d_S_isSpot_5 (m_icmp_ge d_S_isSpot_7 (fun hJ1 => g_iconst d_S_isSpot_14 hJ1) (fun hJ1 => g_iconst d_S_isSpot_10 (g_goto d_S_isSpot_11 hJ1)) hJ2))) ?_
  refine g_zreturn d_S_isSpot_15 rfl ?_ rfl
  (repeat' split) <;> rfl
def f_S_hold (p1 p2 : Int32) (S : St) : Option (Int32 × St) := ((f_S_isSpot p1 S).bind fun q1 => (if (bI q1.1) = 0 then ((f_S_finding 0 q1.2).bind fun q3 => some (q3.1, q3.2)) else (if p2 = (-1) then (if inb p1 10 = true then let S6 := put q1.2 6 (p1).toNatClampNeg p2; some (1, S6) else none) else ((f_S_isSlot p2 q1.2).bind fun q7 => (if (bI q7.1) = 0 then ((f_S_finding 0 q7.2).bind fun q11 => some (q11.1, q11.2)) else (if inb p1 10 = true then let S10 := put q7.2 6 (p1).toNatClampNeg p2; some (1, S10) else none))))))
set_option maxRecDepth 4000 in
theorem w_S_hold {X : xC} {d : Nat}  (p1 p2 : Int32) (S : St) : SemG eI X k_S_hold (d + 1) 0 [some (.ref (xB X + 0)), some (.int p1), some (.int p2)] [] S (f_S_hold  p1 p2 S) := by
  unfold f_S_hold
  refine g_iload_n d_S_hold_0 rfl ?_
  refine g_callS1B d_S_hold_1 ml_S_187 sk_S_isSpot rfl (Nat.le_of_ble_eq_true rfl) (w_S_isSpot (X := X) (d := d) _ _) (fun q1 => ?_)
  refine s_if_eq d_S_hold_4 (fun u2 => ?_) (fun u2 => ?_)
  · refine g_aload_n d_S_hold_19 rfl ?_
    refine g_iconst d_S_hold_20 ?_
    refine g_callV1I d_S_hold_21 ml_S_67 vk_S_finding rfl ⟨_, rfl, rfl⟩ rfl (Nat.le_of_ble_eq_true rfl) (w_S_finding (X := X) (d := d) _ _) (fun q3 => ?_)
    exact g_ireturn d_S_hold_24 rfl rfl rfl
  · refine g_iload_n d_S_hold_7 rfl ?_
    refine g_iconst d_S_hold_8 ?_
    refine s_icmp_eq d_S_hold_9 (fun u4 => ?_) (fun u4 => ?_)
    · refine g_aload_n d_S_hold_25 rfl ?_
      refine g_getR d_S_hold_26 fl_S_10 rfl rfl ?_
      refine g_getR d_S_hold_29 fl_S_190 rfl rfl ?_
      refine g_iload_n d_S_hold_32 rfl ?_
      refine g_iload_n d_S_hold_33 rfl ?_
      refine g_guard (fun hb5 => ?_)
      refine g_ist d_S_hold_34 rfl hb5 rfl ?_
      refine g_iconst d_S_hold_35 ?_
      exact g_ireturn d_S_hold_36 rfl rfl rfl
    · refine g_iload_n d_S_hold_12 rfl ?_
      refine g_callS1B d_S_hold_13 ml_S_104 sk_S_isSlot rfl (Nat.le_of_ble_eq_true rfl) (w_S_isSlot (X := X) (d := d) _ _) (fun q7 => ?_)
      refine s_if_ne d_S_hold_16 (fun u8 => ?_) (fun u8 => ?_)
      · refine g_aload_n d_S_hold_25 rfl ?_
        refine g_getR d_S_hold_26 fl_S_10 rfl rfl ?_
        refine g_getR d_S_hold_29 fl_S_190 rfl rfl ?_
        refine g_iload_n d_S_hold_32 rfl ?_
        refine g_iload_n d_S_hold_33 rfl ?_
        refine g_guard (fun hb9 => ?_)
        refine g_ist d_S_hold_34 rfl hb9 rfl ?_
        refine g_iconst d_S_hold_35 ?_
        exact g_ireturn d_S_hold_36 rfl rfl rfl
      · refine g_aload_n d_S_hold_19 rfl ?_
        refine g_iconst d_S_hold_20 ?_
        refine g_callV1I d_S_hold_21 ml_S_67 vk_S_finding rfl ⟨_, rfl, rfl⟩ rfl (Nat.le_of_ble_eq_true rfl) (w_S_finding (X := X) (d := d) _ _) (fun q11 => ?_)
        exact g_ireturn d_S_hold_24 rfl rfl rfl
def f_S_as (p1 p2 : Int32) (S : St) : Option (Int32 × St) := ((f_S_isSpot p1 S).bind fun q1 => (if (bI q1.1) = 0 then ((f_S_finding 0 q1.2).bind fun q3 => some (q3.1, q3.2)) else (if p2 < 0 then ((f_S_finding 0 q1.2).bind fun q5 => some (q5.1, q5.2)) else (if p2 < 8 then (if inb p1 10 = true then let x8 : Int32 := (q1.2 6 (p1).toNatClampNeg); ((f_S_isSlot x8 q1.2).bind fun q9 => (if (bI q9.1) = 0 then ((f_S_finding 5 q9.2).bind fun q11 => some (q11.1, q11.2)) else (if inb x8 10 = true then (if (q9.2 5 (x8).toNatClampNeg) = (-1) then ((f_S_finding 5 q9.2).bind fun q17 => some (q17.1, q17.2)) else ((f_S_isOfKind (q9.2 5 (x8).toNatClampNeg) p2 q9.2).bind fun q14 => (if (bI q14.1) = 0 then ((f_S_finding 2 q14.2).bind fun q16 => some (q16.1, q16.2)) else some (x8, q14.2)))) else none))) else none) else ((f_S_finding 0 q1.2).bind fun q18 => some (q18.1, q18.2))))))
set_option maxRecDepth 4000 in
theorem w_S_as {X : xC} {d : Nat}  (p1 p2 : Int32) (S : St) : SemG eI X k_S_as (d + 2) 0 [some (.ref (xB X + 0)), some (.int p1), some (.int p2), none] [] S (f_S_as  p1 p2 S) := by
  unfold f_S_as
  refine g_iload_n d_S_as_0 rfl ?_
  refine g_callS1B d_S_as_1 ml_S_187 sk_S_isSpot rfl (Nat.le_of_ble_eq_true rfl) (w_S_isSpot (X := X) (d := d + 1) _ _) (fun q1 => ?_)
  refine s_if_eq d_S_as_4 (fun u2 => ?_) (fun u2 => ?_)
  · refine g_aload_n d_S_as_17 rfl ?_
    refine g_iconst d_S_as_18 ?_
    refine g_callV1I d_S_as_19 ml_S_67 vk_S_finding rfl ⟨_, rfl, rfl⟩ rfl (Nat.le_of_ble_eq_true rfl) (w_S_finding (X := X) (d := d + 1) _ _) (fun q3 => ?_)
    exact g_ireturn d_S_as_22 rfl rfl rfl
  · refine g_iload_n d_S_as_7 rfl ?_
    refine s_if_lt d_S_as_8 (fun u4 => ?_) (fun u4 => ?_)
    · refine g_aload_n d_S_as_17 rfl ?_
      refine g_iconst d_S_as_18 ?_
      refine g_callV1I d_S_as_19 ml_S_67 vk_S_finding rfl ⟨_, rfl, rfl⟩ rfl (Nat.le_of_ble_eq_true rfl) (w_S_finding (X := X) (d := d + 1) _ _) (fun q5 => ?_)
      exact g_ireturn d_S_as_22 rfl rfl rfl
    · refine g_iload_n d_S_as_11 rfl ?_
      refine g_bipush d_S_as_12 ?_
      refine s_icmp_lt d_S_as_14 (fun u6 => ?_) (fun u6 => ?_)
      · refine g_aload_n d_S_as_23 rfl ?_
        refine g_getR d_S_as_24 fl_S_10 rfl rfl ?_
        refine g_getR d_S_as_27 fl_S_190 rfl rfl ?_
        refine g_iload_n d_S_as_30 rfl ?_
        refine g_guard (fun hb7 => ?_)
        refine g_ild d_S_as_31 rfl hb7 rfl ?_
        refine g_istore_n d_S_as_32 (by decide) ?_
        refine g_iload_n d_S_as_33 rfl ?_
        refine g_callS1B d_S_as_34 ml_S_104 sk_S_isSlot rfl (Nat.le_of_ble_eq_true rfl) (w_S_isSlot (X := X) (d := d + 1) _ _) (fun q9 => ?_)
        refine s_if_eq d_S_as_37 (fun u10 => ?_) (fun u10 => ?_)
        · refine g_aload_n d_S_as_53 rfl ?_
          refine g_iconst d_S_as_54 ?_
          refine g_callV1I d_S_as_55 ml_S_67 vk_S_finding rfl ⟨_, rfl, rfl⟩ rfl (Nat.le_of_ble_eq_true rfl) (w_S_finding (X := X) (d := d + 1) _ _) (fun q11 => ?_)
          exact g_ireturn d_S_as_58 rfl rfl rfl
        · refine g_aload_n d_S_as_40 rfl ?_
          refine g_getR d_S_as_41 fl_S_10 rfl rfl ?_
          refine g_getR d_S_as_44 fl_S_107 rfl rfl ?_
          refine g_iload_n d_S_as_47 rfl ?_
          refine g_guard (fun hb12 => ?_)
          refine g_ild d_S_as_48 rfl hb12 rfl ?_
          refine g_iconst d_S_as_49 ?_
          refine s_icmp_ne d_S_as_50 (fun u13 => ?_) (fun u13 => ?_)
          · refine g_aload_n d_S_as_59 rfl ?_
            refine g_getR d_S_as_60 fl_S_10 rfl rfl ?_
            refine g_getR d_S_as_63 fl_S_107 rfl rfl ?_
            refine g_iload_n d_S_as_66 rfl ?_
            refine g_ild d_S_as_67 rfl hb12 rfl ?_
            refine g_iload_n d_S_as_68 rfl ?_
            refine g_callS2B d_S_as_69 ml_S_193 sk_S_isOfKind rfl rfl (Nat.le_of_ble_eq_true rfl) (w_S_isOfKind (X := X) (d := d) _ _ _) (fun q14 => ?_)
            refine s_if_eq d_S_as_72 (fun u15 => ?_) (fun u15 => ?_)
            · refine g_aload_n d_S_as_79 rfl ?_
              refine g_iconst d_S_as_80 ?_
              refine g_callV1I d_S_as_81 ml_S_67 vk_S_finding rfl ⟨_, rfl, rfl⟩ rfl (Nat.le_of_ble_eq_true rfl) (w_S_finding (X := X) (d := d + 1) _ _) (fun q16 => ?_)
              exact g_ireturn d_S_as_84 rfl rfl rfl
            · refine g_iload_n d_S_as_75 rfl ?_
              refine g_goto d_S_as_76 ?_
              exact g_ireturn d_S_as_84 rfl rfl rfl
          · refine g_aload_n d_S_as_53 rfl ?_
            refine g_iconst d_S_as_54 ?_
            refine g_callV1I d_S_as_55 ml_S_67 vk_S_finding rfl ⟨_, rfl, rfl⟩ rfl (Nat.le_of_ble_eq_true rfl) (w_S_finding (X := X) (d := d + 1) _ _) (fun q17 => ?_)
            exact g_ireturn d_S_as_58 rfl rfl rfl
      · refine g_aload_n d_S_as_17 rfl ?_
        refine g_iconst d_S_as_18 ?_
        refine g_callV1I d_S_as_19 ml_S_67 vk_S_finding rfl ⟨_, rfl, rfl⟩ rfl (Nat.le_of_ble_eq_true rfl) (w_S_finding (X := X) (d := d + 1) _ _) (fun q18 => ?_)
        exact g_ireturn d_S_as_22 rfl rfl rfl
def f_S_isSheet (p1 : Int32) (S : St) : Option (Bool × St) := let x3 : Int32 := (if p1 < 0 then 0 else (if 4 ≤ p1 then 0 else 1)); some ((if p1 < 0 then false else (if 4 ≤ p1 then false else true)), S)
set_option maxRecDepth 4000 in
theorem w_S_isSheet {X : xC} {d : Nat}  (p1 : Int32) (S : St) : SemG eB X k_S_isSheet (d) 0 [some (.int p1)] [] S (f_S_isSheet  p1 S) := by
  unfold f_S_isSheet
  refine g_iload_n d_S_isSheet_0 rfl ?_
  refine m_if_lt d_S_isSheet_1 (fun hJ2 => g_iconst d_S_isSheet_13 hJ2) (fun hJ2 => g_iload_n d_S_isSheet_4 rfl (g_iconst d_S_isSheet_5 (m_icmp_ge d_S_isSheet_6 (fun hJ1 => g_iconst d_S_isSheet_13 hJ1) (fun hJ1 => g_iconst d_S_isSheet_9 (g_goto d_S_isSheet_10 hJ1)) hJ2))) ?_
  refine g_zreturn d_S_isSheet_14 rfl ?_ rfl
  (repeat' split) <;> rfl
def f_JA_fill_L5 (r : Nat) : Nat → Int32 → Int32 → Int32 → St → Option (St)
  | 0, _, _, _, _ => none
  | n + 1, y1, y2, y3, S => (if y3 ≤ y2 then some S else (if inb y2 40 = true then let S3 := put S r (y2).toNatClampNeg y1; f_JA_fill_L5 r  n y1 (y2 + 1) y3 S3 else none))
set_option maxRecDepth 4000 in
theorem w_JA_fill_L5 {X : xC} {d : Nat} {r : Nat} (hr : lay[r]? = some (.inl 40))  : ∀ (n : Nat) (y1 : Int32) (y2 : Int32) (y3 : Int32) (S : St), SemG eV X k_JA_fill (d) 5 [some (.ref (xB X + r)), some (.int y1), some (.int y2), some (.int y3)] [] S (f_JA_fill_L5 r  n y1 y2 y3 S) := by
  intro n
  induction n with
  | zero => intro _ _ _ _; exact g_none
  | succ n ih =>
    intro y1 y2 y3 S
    unfold f_JA_fill_L5
    refine g_iload_n d_JA_fill_5 rfl ?_
    refine g_iload_n d_JA_fill_6 rfl ?_
    refine s_icmp_ge d_JA_fill_7 (fun u1 => ?_) (fun u1 => ?_)
    · exact g_return d_JA_fill_20 rfl rfl
    · refine g_aload_n d_JA_fill_10 rfl ?_
      refine g_iload_n d_JA_fill_11 rfl ?_
      refine g_iload_n d_JA_fill_12 rfl ?_
      refine g_guard (fun hb2 => ?_)
      refine g_ist d_JA_fill_13 hr hb2 rfl ?_
      refine g_iinc d_JA_fill_14 (by decide) rfl ?_
      refine g_goto d_JA_fill_17 ?_
      exact ih _ _ _ _
def f_JA_fill (r : Nat) (p2 : Int32) (S : St) : Option (St) := f_JA_fill_L5 r  200 p2 0 40 S
set_option maxRecDepth 4000 in
theorem w_JA_fill {X : xC} {d : Nat} {r : Nat} (hr : lay[r]? = some (.inl 40)) (p2 : Int32) (S : St) : SemG eV X k_JA_fill (d) 0 [some (.ref (xB X + r)), some (.int p2), none, none] [] S (f_JA_fill r p2 S) := by
  unfold f_JA_fill
  refine g_iconst d_JA_fill_0 ?_
  refine g_istore_n d_JA_fill_1 (by decide) ?_
  refine g_aload_n d_JA_fill_2 rfl ?_
  refine g_alen d_JA_fill_3 hr (v := 40) (by decide) ?_
  refine g_istore_n d_JA_fill_4 (by decide) ?_
  exact w_JA_fill_L5 (X := X) (d := d) hr 200 _ _ _ _
def f_T_isMissing (c nm : Nat) (S : St) : Option (Bool × St) := let x2 : Int32 := (if (S c 1) = 0 then 1 else 0); some ((if (S c 1) = 0 then true else false), S)
set_option maxRecDepth 4000 in
theorem w_T_isMissing {X : xC} {d : Nat} {c nm : Nat} (hc : lay[c]? = some (.inr (.inr (3, [some nm, none, none])))) (hn : lay[nm]? = some (.inl 40)) (S : St) : SemG eB X k_T_isMissing (d) 0 [some (.ref (xB X + c))] [] S (f_T_isMissing c nm  S) := by
  unfold f_T_isMissing
  refine g_aload_n d_T_isMissing_0 rfl ?_
  refine g_getI d_T_isMissing_1 fl_T_15 hc rfl ?_
  refine m_if_ne d_T_isMissing_4 (fun hJ1 => g_iconst d_T_isMissing_11 hJ1) (fun hJ1 => g_iconst d_T_isMissing_7 (g_goto d_T_isMissing_8 hJ1)) ?_
  refine g_zreturn d_T_isMissing_12 rfl ?_ rfl
  (repeat' split) <;> rfl
def f_T_renew (c nm : Nat) (p1 p2 : Int32) (S : St) : Option (St) := ((f_JA_fill nm 0 S).bind fun q1 => let S2 := put q1 c 1 p1; ((f_T_isMissing c nm S2).bind fun q3 => let x5 : Int32 := (if (bI q3.1) = 0 then p2 else 0); let S6 := put q3.2 c 2 x5; some S6))
set_option maxRecDepth 4000 in
theorem w_T_renew {X : xC} {d : Nat} {c nm : Nat} (hc : lay[c]? = some (.inr (.inr (3, [some nm, none, none])))) (hn : lay[nm]? = some (.inl 40)) (p1 p2 : Int32) (S : St) : SemG eV X k_T_renew (d + 1) 0 [some (.ref (xB X + c)), some (.int p1), some (.int p2)] [] S (f_T_renew c nm p1 p2 S) := by
  unfold f_T_renew
  refine g_aload_n d_T_renew_0 rfl ?_
  refine g_getR d_T_renew_1 fl_T_9 hc rfl ?_
  refine g_iconst d_T_renew_4 ?_
  refine g_callS2V d_T_renew_5 ml_T_19 sk_JA_fill rfl rfl (Nat.le_of_ble_eq_true rfl) (w_JA_fill (X := X) (d := d) hn _ _) (fun q1 => ?_)
  refine g_aload_n d_T_renew_8 rfl ?_
  refine g_iload_n d_T_renew_9 rfl ?_
  refine g_putI d_T_renew_10 fl_T_15 ⟨_, rfl, rfl⟩ hc rfl rfl rfl ?_
  refine g_aload_n d_T_renew_13 rfl ?_
  refine g_aload_n d_T_renew_14 rfl ?_
  refine g_callV0B d_T_renew_15 ml_T_25 vk_T_isMissing hc ⟨_, rfl, rfl⟩ (Nat.le_of_ble_eq_true rfl) (w_T_isMissing (X := X) (d := d) hc hn _) (fun q3 => ?_)
  refine m_if_eq d_T_renew_18 (fun hJ4 => g_iload_n d_T_renew_25 rfl hJ4) (fun hJ4 => g_iconst d_T_renew_21 (g_goto d_T_renew_22 hJ4)) ?_
  refine g_putI d_T_renew_26 fl_T_29 ⟨_, rfl, rfl⟩ hc rfl rfl rfl ?_
  exact g_return d_T_renew_29 rfl rfl
def f_S_sheet (p1 p2 p3 : Int32) (S : St) : Option (Int32 × St) := ((f_S_isSheet p1 S).bind fun q1 => (if (bI q1.1) = 0 then ((f_S_finding 0 q1.2).bind fun q3 => some (q3.1, q3.2)) else (if p2 = 0 then (if 0 ≤ p3 then (if p3 ≤ 40 then (if inb p1 4 = true then ((f_T_renew (37 + 2 * (p1).toNatClampNeg) (38 + 2 * (p1).toNatClampNeg) p2 p3 q1.2).bind fun q8 => some ((q8 (37 + 2 * (p1).toNatClampNeg) 2), q8)) else none) else ((f_S_finding 0 q1.2).bind fun q9 => some (q9.1, q9.2))) else ((f_S_finding 6 q1.2).bind fun q10 => some (q10.1, q10.2))) else (if p2 = 8 then (if 0 ≤ p3 then (if p3 ≤ 40 then (if inb p1 4 = true then ((f_T_renew (37 + 2 * (p1).toNatClampNeg) (38 + 2 * (p1).toNatClampNeg) p2 p3 q1.2).bind fun q15 => some ((q15 (37 + 2 * (p1).toNatClampNeg) 2), q15)) else none) else ((f_S_finding 0 q1.2).bind fun q16 => some (q16.1, q16.2))) else ((f_S_finding 6 q1.2).bind fun q17 => some (q17.1, q17.2))) else (if p2 = 16 then (if 0 ≤ p3 then (if p3 ≤ 40 then (if inb p1 4 = true then ((f_T_renew (37 + 2 * (p1).toNatClampNeg) (38 + 2 * (p1).toNatClampNeg) p2 p3 q1.2).bind fun q22 => some ((q22 (37 + 2 * (p1).toNatClampNeg) 2), q22)) else none) else ((f_S_finding 0 q1.2).bind fun q23 => some (q23.1, q23.2))) else ((f_S_finding 6 q1.2).bind fun q24 => some (q24.1, q24.2))) else (if p2 = 32 then (if 0 ≤ p3 then (if p3 ≤ 40 then (if inb p1 4 = true then ((f_T_renew (37 + 2 * (p1).toNatClampNeg) (38 + 2 * (p1).toNatClampNeg) p2 p3 q1.2).bind fun q29 => some ((q29 (37 + 2 * (p1).toNatClampNeg) 2), q29)) else none) else ((f_S_finding 0 q1.2).bind fun q30 => some (q30.1, q30.2))) else ((f_S_finding 6 q1.2).bind fun q31 => some (q31.1, q31.2))) else ((f_S_finding 0 q1.2).bind fun q32 => some (q32.1, q32.2))))))))
set_option maxRecDepth 4000 in
theorem w_S_sheet {X : xC} {d : Nat}  (p1 p2 p3 : Int32) (S : St) : SemG eI X k_S_sheet (d + 2) 0 [some (.ref (xB X + 0)), some (.int p1), some (.int p2), some (.int p3)] [] S (f_S_sheet  p1 p2 p3 S) := by
  unfold f_S_sheet
  refine g_iload_n d_S_sheet_0 rfl ?_
  refine g_callS1B d_S_sheet_1 ml_S_197 sk_S_isSheet rfl (Nat.le_of_ble_eq_true rfl) (w_S_isSheet (X := X) (d := d + 1) _ _) (fun q1 => ?_)
  refine s_if_eq d_S_sheet_4 (fun u2 => ?_) (fun u2 => ?_)
  · refine g_aload_n d_S_sheet_29 rfl ?_
    refine g_iconst d_S_sheet_30 ?_
    refine g_callV1I d_S_sheet_31 ml_S_67 vk_S_finding rfl ⟨_, rfl, rfl⟩ rfl (Nat.le_of_ble_eq_true rfl) (w_S_finding (X := X) (d := d + 1) _ _) (fun q3 => ?_)
    exact g_ireturn d_S_sheet_34 rfl rfl rfl
  · refine g_iload_n d_S_sheet_7 rfl ?_
    refine s_if_eq d_S_sheet_8 (fun u4 => ?_) (fun u4 => ?_)
    · refine g_iload_n d_S_sheet_35 rfl ?_
      refine s_if_ge d_S_sheet_36 (fun u5 => ?_) (fun u5 => ?_)
      · refine g_iload_n d_S_sheet_46 rfl ?_
        refine g_bipush d_S_sheet_47 ?_
        refine s_icmp_le d_S_sheet_49 (fun u6 => ?_) (fun u6 => ?_)
        · refine g_aload_n d_S_sheet_58 rfl ?_
          refine g_getR d_S_sheet_59 fl_S_56 rfl rfl ?_
          refine g_iload_n d_S_sheet_62 rfl ?_
          refine g_guard (fun hb7 => ?_)
          refine g_ald (t := 2) d_S_sheet_63 rfl rfl hb7 (sh_at _ (inb_lt hb7)).1 ?_
          refine g_iload_n d_S_sheet_64 rfl ?_
          refine g_iload_n d_S_sheet_65 rfl ?_
          refine g_callV2V d_S_sheet_66 ml_S_200 vk_T_renew (sh_at _ (inb_lt hb7)).2.1 ⟨_, rfl, rfl⟩ rfl rfl (Nat.le_of_ble_eq_true rfl) (w_T_renew (X := X) (d := d) (sh_at _ (inb_lt hb7)).2.1 (sh_at _ (inb_lt hb7)).2.2 _ _ _) (fun q8 => ?_)
          refine g_aload_n d_S_sheet_69 rfl ?_
          refine g_getR d_S_sheet_70 fl_S_56 rfl rfl ?_
          refine g_iload_n d_S_sheet_73 rfl ?_
          refine g_ald (t := 2) d_S_sheet_74 rfl rfl hb7 (sh_at _ (inb_lt hb7)).1 ?_
          refine g_getI d_S_sheet_75 fl_S_204 (sh_at _ (inb_lt hb7)).2.1 rfl ?_
          exact g_ireturn d_S_sheet_78 rfl rfl rfl
        · refine g_aload_n d_S_sheet_52 rfl ?_
          refine g_iconst d_S_sheet_53 ?_
          refine g_callV1I d_S_sheet_54 ml_S_67 vk_S_finding rfl ⟨_, rfl, rfl⟩ rfl (Nat.le_of_ble_eq_true rfl) (w_S_finding (X := X) (d := d + 1) _ _) (fun q9 => ?_)
          exact g_ireturn d_S_sheet_57 rfl rfl rfl
      · refine g_aload_n d_S_sheet_39 rfl ?_
        refine g_bipush d_S_sheet_40 ?_
        refine g_callV1I d_S_sheet_42 ml_S_67 vk_S_finding rfl ⟨_, rfl, rfl⟩ rfl (Nat.le_of_ble_eq_true rfl) (w_S_finding (X := X) (d := d + 1) _ _) (fun q10 => ?_)
        exact g_ireturn d_S_sheet_45 rfl rfl rfl
    · refine g_iload_n d_S_sheet_11 rfl ?_
      refine g_bipush d_S_sheet_12 ?_
      refine s_icmp_eq d_S_sheet_14 (fun u11 => ?_) (fun u11 => ?_)
      · refine g_iload_n d_S_sheet_35 rfl ?_
        refine s_if_ge d_S_sheet_36 (fun u12 => ?_) (fun u12 => ?_)
        · refine g_iload_n d_S_sheet_46 rfl ?_
          refine g_bipush d_S_sheet_47 ?_
          refine s_icmp_le d_S_sheet_49 (fun u13 => ?_) (fun u13 => ?_)
          · refine g_aload_n d_S_sheet_58 rfl ?_
            refine g_getR d_S_sheet_59 fl_S_56 rfl rfl ?_
            refine g_iload_n d_S_sheet_62 rfl ?_
            refine g_guard (fun hb14 => ?_)
            refine g_ald (t := 2) d_S_sheet_63 rfl rfl hb14 (sh_at _ (inb_lt hb14)).1 ?_
            refine g_iload_n d_S_sheet_64 rfl ?_
            refine g_iload_n d_S_sheet_65 rfl ?_
            refine g_callV2V d_S_sheet_66 ml_S_200 vk_T_renew (sh_at _ (inb_lt hb14)).2.1 ⟨_, rfl, rfl⟩ rfl rfl (Nat.le_of_ble_eq_true rfl) (w_T_renew (X := X) (d := d) (sh_at _ (inb_lt hb14)).2.1 (sh_at _ (inb_lt hb14)).2.2 _ _ _) (fun q15 => ?_)
            refine g_aload_n d_S_sheet_69 rfl ?_
            refine g_getR d_S_sheet_70 fl_S_56 rfl rfl ?_
            refine g_iload_n d_S_sheet_73 rfl ?_
            refine g_ald (t := 2) d_S_sheet_74 rfl rfl hb14 (sh_at _ (inb_lt hb14)).1 ?_
            refine g_getI d_S_sheet_75 fl_S_204 (sh_at _ (inb_lt hb14)).2.1 rfl ?_
            exact g_ireturn d_S_sheet_78 rfl rfl rfl
          · refine g_aload_n d_S_sheet_52 rfl ?_
            refine g_iconst d_S_sheet_53 ?_
            refine g_callV1I d_S_sheet_54 ml_S_67 vk_S_finding rfl ⟨_, rfl, rfl⟩ rfl (Nat.le_of_ble_eq_true rfl) (w_S_finding (X := X) (d := d + 1) _ _) (fun q16 => ?_)
            exact g_ireturn d_S_sheet_57 rfl rfl rfl
        · refine g_aload_n d_S_sheet_39 rfl ?_
          refine g_bipush d_S_sheet_40 ?_
          refine g_callV1I d_S_sheet_42 ml_S_67 vk_S_finding rfl ⟨_, rfl, rfl⟩ rfl (Nat.le_of_ble_eq_true rfl) (w_S_finding (X := X) (d := d + 1) _ _) (fun q17 => ?_)
          exact g_ireturn d_S_sheet_45 rfl rfl rfl
      · refine g_iload_n d_S_sheet_17 rfl ?_
        refine g_bipush d_S_sheet_18 ?_
        refine s_icmp_eq d_S_sheet_20 (fun u18 => ?_) (fun u18 => ?_)
        · refine g_iload_n d_S_sheet_35 rfl ?_
          refine s_if_ge d_S_sheet_36 (fun u19 => ?_) (fun u19 => ?_)
          · refine g_iload_n d_S_sheet_46 rfl ?_
            refine g_bipush d_S_sheet_47 ?_
            refine s_icmp_le d_S_sheet_49 (fun u20 => ?_) (fun u20 => ?_)
            · refine g_aload_n d_S_sheet_58 rfl ?_
              refine g_getR d_S_sheet_59 fl_S_56 rfl rfl ?_
              refine g_iload_n d_S_sheet_62 rfl ?_
              refine g_guard (fun hb21 => ?_)
              refine g_ald (t := 2) d_S_sheet_63 rfl rfl hb21 (sh_at _ (inb_lt hb21)).1 ?_
              refine g_iload_n d_S_sheet_64 rfl ?_
              refine g_iload_n d_S_sheet_65 rfl ?_
              refine g_callV2V d_S_sheet_66 ml_S_200 vk_T_renew (sh_at _ (inb_lt hb21)).2.1 ⟨_, rfl, rfl⟩ rfl rfl (Nat.le_of_ble_eq_true rfl) (w_T_renew (X := X) (d := d) (sh_at _ (inb_lt hb21)).2.1 (sh_at _ (inb_lt hb21)).2.2 _ _ _) (fun q22 => ?_)
              refine g_aload_n d_S_sheet_69 rfl ?_
              refine g_getR d_S_sheet_70 fl_S_56 rfl rfl ?_
              refine g_iload_n d_S_sheet_73 rfl ?_
              refine g_ald (t := 2) d_S_sheet_74 rfl rfl hb21 (sh_at _ (inb_lt hb21)).1 ?_
              refine g_getI d_S_sheet_75 fl_S_204 (sh_at _ (inb_lt hb21)).2.1 rfl ?_
              exact g_ireturn d_S_sheet_78 rfl rfl rfl
            · refine g_aload_n d_S_sheet_52 rfl ?_
              refine g_iconst d_S_sheet_53 ?_
              refine g_callV1I d_S_sheet_54 ml_S_67 vk_S_finding rfl ⟨_, rfl, rfl⟩ rfl (Nat.le_of_ble_eq_true rfl) (w_S_finding (X := X) (d := d + 1) _ _) (fun q23 => ?_)
              exact g_ireturn d_S_sheet_57 rfl rfl rfl
          · refine g_aload_n d_S_sheet_39 rfl ?_
            refine g_bipush d_S_sheet_40 ?_
            refine g_callV1I d_S_sheet_42 ml_S_67 vk_S_finding rfl ⟨_, rfl, rfl⟩ rfl (Nat.le_of_ble_eq_true rfl) (w_S_finding (X := X) (d := d + 1) _ _) (fun q24 => ?_)
            exact g_ireturn d_S_sheet_45 rfl rfl rfl
        · refine g_iload_n d_S_sheet_23 rfl ?_
          refine g_bipush d_S_sheet_24 ?_
          refine s_icmp_eq d_S_sheet_26 (fun u25 => ?_) (fun u25 => ?_)
          · refine g_iload_n d_S_sheet_35 rfl ?_
            refine s_if_ge d_S_sheet_36 (fun u26 => ?_) (fun u26 => ?_)
            · refine g_iload_n d_S_sheet_46 rfl ?_
              refine g_bipush d_S_sheet_47 ?_
              refine s_icmp_le d_S_sheet_49 (fun u27 => ?_) (fun u27 => ?_)
              · refine g_aload_n d_S_sheet_58 rfl ?_
                refine g_getR d_S_sheet_59 fl_S_56 rfl rfl ?_
                refine g_iload_n d_S_sheet_62 rfl ?_
                refine g_guard (fun hb28 => ?_)
                refine g_ald (t := 2) d_S_sheet_63 rfl rfl hb28 (sh_at _ (inb_lt hb28)).1 ?_
                refine g_iload_n d_S_sheet_64 rfl ?_
                refine g_iload_n d_S_sheet_65 rfl ?_
                refine g_callV2V d_S_sheet_66 ml_S_200 vk_T_renew (sh_at _ (inb_lt hb28)).2.1 ⟨_, rfl, rfl⟩ rfl rfl (Nat.le_of_ble_eq_true rfl) (w_T_renew (X := X) (d := d) (sh_at _ (inb_lt hb28)).2.1 (sh_at _ (inb_lt hb28)).2.2 _ _ _) (fun q29 => ?_)
                refine g_aload_n d_S_sheet_69 rfl ?_
                refine g_getR d_S_sheet_70 fl_S_56 rfl rfl ?_
                refine g_iload_n d_S_sheet_73 rfl ?_
                refine g_ald (t := 2) d_S_sheet_74 rfl rfl hb28 (sh_at _ (inb_lt hb28)).1 ?_
                refine g_getI d_S_sheet_75 fl_S_204 (sh_at _ (inb_lt hb28)).2.1 rfl ?_
                exact g_ireturn d_S_sheet_78 rfl rfl rfl
              · refine g_aload_n d_S_sheet_52 rfl ?_
                refine g_iconst d_S_sheet_53 ?_
                refine g_callV1I d_S_sheet_54 ml_S_67 vk_S_finding rfl ⟨_, rfl, rfl⟩ rfl (Nat.le_of_ble_eq_true rfl) (w_S_finding (X := X) (d := d + 1) _ _) (fun q30 => ?_)
                exact g_ireturn d_S_sheet_57 rfl rfl rfl
            · refine g_aload_n d_S_sheet_39 rfl ?_
              refine g_bipush d_S_sheet_40 ?_
              refine g_callV1I d_S_sheet_42 ml_S_67 vk_S_finding rfl ⟨_, rfl, rfl⟩ rfl (Nat.le_of_ble_eq_true rfl) (w_S_finding (X := X) (d := d + 1) _ _) (fun q31 => ?_)
              exact g_ireturn d_S_sheet_45 rfl rfl rfl
          · refine g_aload_n d_S_sheet_29 rfl ?_
            refine g_iconst d_S_sheet_30 ?_
            refine g_callV1I d_S_sheet_31 ml_S_67 vk_S_finding rfl ⟨_, rfl, rfl⟩ rfl (Nat.le_of_ble_eq_true rfl) (w_S_finding (X := X) (d := d + 1) _ _) (fun q32 => ?_)
            exact g_ireturn d_S_sheet_34 rfl rfl rfl
def f_T_hasAll (c nm : Nat) (p1 p2 : Int32) (S : St) : Option (Bool × St) := let x4 : Int32 := (if p1 < 0 then 0 else (if p2 < 0 then 0 else (if ((S c 2) - p2) < p1 then 0 else 1))); some ((if p1 < 0 then false else (if p2 < 0 then false else (if ((S c 2) - p2) < p1 then false else true))), S)
set_option maxRecDepth 4000 in
theorem w_T_hasAll {X : xC} {d : Nat} {c nm : Nat} (hc : lay[c]? = some (.inr (.inr (3, [some nm, none, none])))) (hn : lay[nm]? = some (.inl 40)) (p1 p2 : Int32) (S : St) : SemG eB X k_T_hasAll (d) 0 [some (.ref (xB X + c)), some (.int p1), some (.int p2)] [] S (f_T_hasAll c nm p1 p2 S) := by
  unfold f_T_hasAll
  refine g_iload_n d_T_hasAll_0 rfl ?_
  refine m_if_lt d_T_hasAll_1 (fun hJ3 => g_iconst d_T_hasAll_22 hJ3) (fun hJ3 => g_iload_n d_T_hasAll_4 rfl (m_if_lt d_T_hasAll_5 (fun hJ2 => g_iconst d_T_hasAll_22 hJ2) (fun hJ2 => g_iload_n d_T_hasAll_8 rfl (g_aload_n d_T_hasAll_9 rfl (g_getI d_T_hasAll_10 fl_T_29 hc rfl (g_iload_n d_T_hasAll_13 rfl (g_isub d_T_hasAll_14 (m_icmp_gt d_T_hasAll_15 (fun hJ1 => g_iconst d_T_hasAll_22 hJ1) (fun hJ1 => g_iconst d_T_hasAll_18 (g_goto d_T_hasAll_19 hJ1)) hJ2)))))) hJ3)) ?_
  refine g_zreturn d_T_hasAll_23 rfl ?_ rfl
  (repeat' split) <;> rfl
def f_T_fitted (c nm : Nat) (p1 : Int32) (S : St) : Option (Int32 × St) := (if (S c 1) = 8 then some ((p1).toInt8.toInt32, S) else (if (S c 1) = 16 then some ((p1).toInt16.toInt32, S) else some (p1, S)))
set_option maxRecDepth 4000 in
theorem w_T_fitted {X : xC} {d : Nat} {c nm : Nat} (hc : lay[c]? = some (.inr (.inr (3, [some nm, none, none])))) (hn : lay[nm]? = some (.inl 40)) (p1 : Int32) (S : St) : SemG eI X k_T_fitted (d) 0 [some (.ref (xB X + c)), some (.int p1)] [] S (f_T_fitted c nm p1 S) := by
  unfold f_T_fitted
  refine g_aload_n d_T_fitted_0 rfl ?_
  refine g_getI d_T_fitted_1 fl_T_15 hc rfl ?_
  refine g_ite (fun u1 => ?_) (fun u1 => ?_)
  · refine g_lcase (off := 28) (tgt := 32) d_T_fitted_4 u1 (by decide) ?_
    refine g_iload_n d_T_fitted_32 rfl ?_
    refine g_i2b d_T_fitted_33 ?_
    exact g_ireturn d_T_fitted_34 rfl rfl rfl
  refine g_ite (fun u2 => ?_) (fun u2 => ?_)
  · refine g_lcase (off := 31) (tgt := 35) d_T_fitted_4 u2 (by decide) ?_
    refine g_iload_n d_T_fitted_35 rfl ?_
    refine g_i2s d_T_fitted_36 ?_
    exact g_ireturn d_T_fitted_37 rfl rfl rfl
  refine g_ldef2 (tgt := 38) d_T_fitted_4 (ne32 u1 (by decide)) (ne32 u2 (by decide)) (by decide) (by decide) ?_
  refine g_iload_n d_T_fitted_38 rfl ?_
  exact g_ireturn d_T_fitted_39 rfl rfl rfl
def f_S_write (p1 p2 p3 : Int32) (S : St) : Option (Int32 × St) := ((f_S_isSheet p1 S).bind fun q1 => (if (bI q1.1) = 0 then ((f_S_finding 0 q1.2).bind fun q13 => some (q13.1, q13.2)) else (if inb p1 4 = true then ((f_T_isMissing (37 + 2 * (p1).toNatClampNeg) (38 + 2 * (p1).toNatClampNeg) q1.2).bind fun q4 => (if (bI q4.1) = 0 then ((f_T_hasAll (37 + 2 * (p1).toNatClampNeg) (38 + 2 * (p1).toNatClampNeg) p2 1 q4.2).bind fun q6 => (if (bI q6.1) = 0 then ((f_S_finding 0 q6.2).bind fun q11 => some (q11.1, q11.2)) else ((f_T_fitted (37 + 2 * (p1).toNatClampNeg) (38 + 2 * (p1).toNatClampNeg) p3 q6.2).bind fun q8 => (if inb p2 40 = true then let S10 := put q8.2 (38 + 2 * (p1).toNatClampNeg) (p2).toNatClampNeg q8.1; some (1, S10) else none)))) else ((f_S_finding 5 q4.2).bind fun q12 => some (q12.1, q12.2)))) else none)))
set_option maxRecDepth 4000 in
theorem w_S_write {X : xC} {d : Nat}  (p1 p2 p3 : Int32) (S : St) : SemG eI X k_S_write (d + 1) 0 [some (.ref (xB X + 0)), some (.int p1), some (.int p2), some (.int p3), none] [] S (f_S_write  p1 p2 p3 S) := by
  unfold f_S_write
  refine g_iload_n d_S_write_0 rfl ?_
  refine g_callS1B d_S_write_1 ml_S_197 sk_S_isSheet rfl (Nat.le_of_ble_eq_true rfl) (w_S_isSheet (X := X) (d := d) _ _) (fun q1 => ?_)
  refine s_if_ne d_S_write_4 (fun u2 => ?_) (fun u2 => ?_)
  · refine g_aload_n d_S_write_13 rfl ?_
    refine g_getR d_S_write_14 fl_S_56 rfl rfl ?_
    refine g_iload_n d_S_write_17 rfl ?_
    refine g_guard (fun hb3 => ?_)
    refine g_ald (t := 2) d_S_write_18 rfl rfl hb3 (sh_at _ (inb_lt hb3)).1 ?_
    refine g_astore d_S_write_19 (by decide) ?_
    refine g_aload d_S_write_21 rfl ?_
    refine g_callV0B d_S_write_23 ml_S_207 vk_T_isMissing (sh_at _ (inb_lt hb3)).2.1 ⟨_, rfl, rfl⟩ (Nat.le_of_ble_eq_true rfl) (w_T_isMissing (X := X) (d := d) (sh_at _ (inb_lt hb3)).2.1 (sh_at _ (inb_lt hb3)).2.2 _) (fun q4 => ?_)
    refine s_if_eq d_S_write_26 (fun u5 => ?_) (fun u5 => ?_)
    · refine g_aload d_S_write_35 rfl ?_
      refine g_iload_n d_S_write_37 rfl ?_
      refine g_iconst d_S_write_38 ?_
      refine g_callV2B d_S_write_39 ml_S_210 vk_T_hasAll (sh_at _ (inb_lt hb3)).2.1 ⟨_, rfl, rfl⟩ rfl rfl (Nat.le_of_ble_eq_true rfl) (w_T_hasAll (X := X) (d := d) (sh_at _ (inb_lt hb3)).2.1 (sh_at _ (inb_lt hb3)).2.2 _ _ _) (fun q6 => ?_)
      refine s_if_ne d_S_write_42 (fun u7 => ?_) (fun u7 => ?_)
      · refine g_aload d_S_write_51 rfl ?_
        refine g_getR d_S_write_53 fl_S_213 (sh_at _ (inb_lt hb3)).2.1 rfl ?_
        refine g_iload_n d_S_write_56 rfl ?_
        refine g_aload d_S_write_57 rfl ?_
        refine g_iload_n d_S_write_59 rfl ?_
        refine g_callV1I d_S_write_60 ml_S_216 vk_T_fitted (sh_at _ (inb_lt hb3)).2.1 ⟨_, rfl, rfl⟩ rfl (Nat.le_of_ble_eq_true rfl) (w_T_fitted (X := X) (d := d) (sh_at _ (inb_lt hb3)).2.1 (sh_at _ (inb_lt hb3)).2.2 _ _) (fun q8 => ?_)
        refine g_guard (fun hb9 => ?_)
        refine g_ist d_S_write_63 (sh_at _ (inb_lt hb3)).2.2 hb9 rfl ?_
        refine g_iconst d_S_write_64 ?_
        exact g_ireturn d_S_write_65 rfl rfl rfl
      · refine g_aload_n d_S_write_45 rfl ?_
        refine g_iconst d_S_write_46 ?_
        refine g_callV1I d_S_write_47 ml_S_67 vk_S_finding rfl ⟨_, rfl, rfl⟩ rfl (Nat.le_of_ble_eq_true rfl) (w_S_finding (X := X) (d := d) _ _) (fun q11 => ?_)
        exact g_ireturn d_S_write_50 rfl rfl rfl
    · refine g_aload_n d_S_write_29 rfl ?_
      refine g_iconst d_S_write_30 ?_
      refine g_callV1I d_S_write_31 ml_S_67 vk_S_finding rfl ⟨_, rfl, rfl⟩ rfl (Nat.le_of_ble_eq_true rfl) (w_S_finding (X := X) (d := d) _ _) (fun q12 => ?_)
      exact g_ireturn d_S_write_34 rfl rfl rfl
  · refine g_aload_n d_S_write_7 rfl ?_
    refine g_iconst d_S_write_8 ?_
    refine g_callV1I d_S_write_9 ml_S_67 vk_S_finding rfl ⟨_, rfl, rfl⟩ rfl (Nat.le_of_ble_eq_true rfl) (w_S_finding (X := X) (d := d) _ _) (fun q13 => ?_)
    exact g_ireturn d_S_write_12 rfl rfl rfl
def f_S_copy (p1 p2 p3 p4 p5 : Int32) (S : St) : Option (Int32 × St) := ((f_S_isSheet p1 S).bind fun q1 => (if (bI q1.1) = 0 then ((f_S_finding 0 q1.2).bind fun q3 => some (q3.1, q3.2)) else ((f_S_isSheet p3 q1.2).bind fun q4 => (if (bI q4.1) = 0 then ((f_S_finding 0 q4.2).bind fun q24 => some (q24.1, q24.2)) else (if inb p1 4 = true then (if inb p3 4 = true then ((f_T_isMissing (37 + 2 * (p1).toNatClampNeg) (38 + 2 * (p1).toNatClampNeg) q4.2).bind fun q8 => (if (bI q8.1) = 0 then ((f_T_isMissing (37 + 2 * (p3).toNatClampNeg) (38 + 2 * (p3).toNatClampNeg) q8.2).bind fun q11 => (if (bI q11.1) = 0 then (if (q11.2 (37 + 2 * (p1).toNatClampNeg) 1) = (q11.2 (37 + 2 * (p3).toNatClampNeg) 1) then ((f_T_hasAll (37 + 2 * (p1).toNatClampNeg) (38 + 2 * (p1).toNatClampNeg) p2 p5 q11.2).bind fun q14 => (if (bI q14.1) = 0 then ((f_S_finding 0 q14.2).bind fun q16 => some (q16.1, q16.2)) else ((f_T_hasAll (37 + 2 * (p3).toNatClampNeg) (38 + 2 * (p3).toNatClampNeg) p4 p5 q14.2).bind fun q17 => (if (bI q17.1) = 0 then ((f_S_finding 0 q17.2).bind fun q21 => some (q21.1, q21.2)) else (if cpok p2 p4 p5 40 40 = true then let S20 := cpy q17.2 (38 + 2 * (p1).toNatClampNeg) (38 + 2 * (p3).toNatClampNeg) p2 p4 p5; some (p5, S20) else none))))) else ((f_S_finding 2 q11.2).bind fun q22 => some (q22.1, q22.2))) else ((f_S_finding 5 q11.2).bind fun q23 => some (q23.1, q23.2)))) else ((f_S_finding 5 q8.2).bind fun q10 => some (q10.1, q10.2)))) else none) else none)))))
set_option maxRecDepth 4000 in
theorem w_S_copy {X : xC} {d : Nat}  (p1 p2 p3 p4 p5 : Int32) (S : St) : SemG eI X k_S_copy (d + 1) 0 [some (.ref (xB X + 0)), some (.int p1), some (.int p2), some (.int p3), some (.int p4), some (.int p5), none, none] [] S (f_S_copy  p1 p2 p3 p4 p5 S) := by
  unfold f_S_copy
  refine g_iload_n d_S_copy_0 rfl ?_
  refine g_callS1B d_S_copy_1 ml_S_197 sk_S_isSheet rfl (Nat.le_of_ble_eq_true rfl) (w_S_isSheet (X := X) (d := d) _ _) (fun q1 => ?_)
  refine s_if_eq d_S_copy_4 (fun u2 => ?_) (fun u2 => ?_)
  · refine g_aload_n d_S_copy_14 rfl ?_
    refine g_iconst d_S_copy_15 ?_
    refine g_callV1I d_S_copy_16 ml_S_67 vk_S_finding rfl ⟨_, rfl, rfl⟩ rfl (Nat.le_of_ble_eq_true rfl) (w_S_finding (X := X) (d := d) _ _) (fun q3 => ?_)
    exact g_ireturn d_S_copy_19 rfl rfl rfl
  · refine g_iload_n d_S_copy_7 rfl ?_
    refine g_callS1B d_S_copy_8 ml_S_197 sk_S_isSheet rfl (Nat.le_of_ble_eq_true rfl) (w_S_isSheet (X := X) (d := d) _ _) (fun q4 => ?_)
    refine s_if_ne d_S_copy_11 (fun u5 => ?_) (fun u5 => ?_)
    · refine g_aload_n d_S_copy_20 rfl ?_
      refine g_getR d_S_copy_21 fl_S_56 rfl rfl ?_
      refine g_iload_n d_S_copy_24 rfl ?_
      refine g_guard (fun hb6 => ?_)
      refine g_ald (t := 2) d_S_copy_25 rfl rfl hb6 (sh_at _ (inb_lt hb6)).1 ?_
      refine g_astore d_S_copy_26 (by decide) ?_
      refine g_aload_n d_S_copy_28 rfl ?_
      refine g_getR d_S_copy_29 fl_S_56 rfl rfl ?_
      refine g_iload_n d_S_copy_32 rfl ?_
      refine g_guard (fun hb7 => ?_)
      refine g_ald (t := 2) d_S_copy_33 rfl rfl hb7 (sh_at _ (inb_lt hb7)).1 ?_
      refine g_astore d_S_copy_34 (by decide) ?_
      refine g_aload d_S_copy_36 rfl ?_
      refine g_callV0B d_S_copy_38 ml_S_207 vk_T_isMissing (sh_at _ (inb_lt hb6)).2.1 ⟨_, rfl, rfl⟩ (Nat.le_of_ble_eq_true rfl) (w_T_isMissing (X := X) (d := d) (sh_at _ (inb_lt hb6)).2.1 (sh_at _ (inb_lt hb6)).2.2 _) (fun q8 => ?_)
      refine s_if_ne d_S_copy_41 (fun u9 => ?_) (fun u9 => ?_)
      · refine g_aload_n d_S_copy_52 rfl ?_
        refine g_iconst d_S_copy_53 ?_
        refine g_callV1I d_S_copy_54 ml_S_67 vk_S_finding rfl ⟨_, rfl, rfl⟩ rfl (Nat.le_of_ble_eq_true rfl) (w_S_finding (X := X) (d := d) _ _) (fun q10 => ?_)
        exact g_ireturn d_S_copy_57 rfl rfl rfl
      · refine g_aload d_S_copy_44 rfl ?_
        refine g_callV0B d_S_copy_46 ml_S_207 vk_T_isMissing (sh_at _ (inb_lt hb7)).2.1 ⟨_, rfl, rfl⟩ (Nat.le_of_ble_eq_true rfl) (w_T_isMissing (X := X) (d := d) (sh_at _ (inb_lt hb7)).2.1 (sh_at _ (inb_lt hb7)).2.2 _) (fun q11 => ?_)
        refine s_if_eq d_S_copy_49 (fun u12 => ?_) (fun u12 => ?_)
        · refine g_aload d_S_copy_58 rfl ?_
          refine g_getI d_S_copy_60 fl_S_219 (sh_at _ (inb_lt hb6)).2.1 rfl ?_
          refine g_aload d_S_copy_63 rfl ?_
          refine g_getI d_S_copy_65 fl_S_219 (sh_at _ (inb_lt hb7)).2.1 rfl ?_
          refine s_icmp_eq d_S_copy_68 (fun u13 => ?_) (fun u13 => ?_)
          · refine g_aload d_S_copy_77 rfl ?_
            refine g_iload_n d_S_copy_79 rfl ?_
            refine g_iload d_S_copy_80 rfl ?_
            refine g_callV2B d_S_copy_82 ml_S_210 vk_T_hasAll (sh_at _ (inb_lt hb6)).2.1 ⟨_, rfl, rfl⟩ rfl rfl (Nat.le_of_ble_eq_true rfl) (w_T_hasAll (X := X) (d := d) (sh_at _ (inb_lt hb6)).2.1 (sh_at _ (inb_lt hb6)).2.2 _ _ _) (fun q14 => ?_)
            refine s_if_eq d_S_copy_85 (fun u15 => ?_) (fun u15 => ?_)
            · refine g_aload_n d_S_copy_100 rfl ?_
              refine g_iconst d_S_copy_101 ?_
              refine g_callV1I d_S_copy_102 ml_S_67 vk_S_finding rfl ⟨_, rfl, rfl⟩ rfl (Nat.le_of_ble_eq_true rfl) (w_S_finding (X := X) (d := d) _ _) (fun q16 => ?_)
              exact g_ireturn d_S_copy_105 rfl rfl rfl
            · refine g_aload d_S_copy_88 rfl ?_
              refine g_iload d_S_copy_90 rfl ?_
              refine g_iload d_S_copy_92 rfl ?_
              refine g_callV2B d_S_copy_94 ml_S_210 vk_T_hasAll (sh_at _ (inb_lt hb7)).2.1 ⟨_, rfl, rfl⟩ rfl rfl (Nat.le_of_ble_eq_true rfl) (w_T_hasAll (X := X) (d := d) (sh_at _ (inb_lt hb7)).2.1 (sh_at _ (inb_lt hb7)).2.2 _ _ _) (fun q17 => ?_)
              refine s_if_ne d_S_copy_97 (fun u18 => ?_) (fun u18 => ?_)
              · refine g_aload d_S_copy_106 rfl ?_
                refine g_getR d_S_copy_108 fl_S_213 (sh_at _ (inb_lt hb6)).2.1 rfl ?_
                refine g_iload_n d_S_copy_111 rfl ?_
                refine g_aload d_S_copy_112 rfl ?_
                refine g_getR d_S_copy_114 fl_S_213 (sh_at _ (inb_lt hb7)).2.1 rfl ?_
                refine g_iload d_S_copy_117 rfl ?_
                refine g_iload d_S_copy_119 rfl ?_
                refine g_guard (fun hb19 => ?_)
                refine g_copy d_S_copy_121 ml_S_222 (Nat.le_of_ble_eq_true rfl) (sh_at _ (inb_lt hb6)).2.2 (sh_at _ (inb_lt hb7)).2.2 hb19 ?_
                refine g_iload d_S_copy_124 rfl ?_
                exact g_ireturn d_S_copy_126 rfl rfl rfl
              · refine g_aload_n d_S_copy_100 rfl ?_
                refine g_iconst d_S_copy_101 ?_
                refine g_callV1I d_S_copy_102 ml_S_67 vk_S_finding rfl ⟨_, rfl, rfl⟩ rfl (Nat.le_of_ble_eq_true rfl) (w_S_finding (X := X) (d := d) _ _) (fun q21 => ?_)
                exact g_ireturn d_S_copy_105 rfl rfl rfl
          · refine g_aload_n d_S_copy_71 rfl ?_
            refine g_iconst d_S_copy_72 ?_
            refine g_callV1I d_S_copy_73 ml_S_67 vk_S_finding rfl ⟨_, rfl, rfl⟩ rfl (Nat.le_of_ble_eq_true rfl) (w_S_finding (X := X) (d := d) _ _) (fun q22 => ?_)
            exact g_ireturn d_S_copy_76 rfl rfl rfl
        · refine g_aload_n d_S_copy_52 rfl ?_
          refine g_iconst d_S_copy_53 ?_
          refine g_callV1I d_S_copy_54 ml_S_67 vk_S_finding rfl ⟨_, rfl, rfl⟩ rfl (Nat.le_of_ble_eq_true rfl) (w_S_finding (X := X) (d := d) _ _) (fun q23 => ?_)
          exact g_ireturn d_S_copy_57 rfl rfl rfl
    · refine g_aload_n d_S_copy_14 rfl ?_
      refine g_iconst d_S_copy_15 ?_
      refine g_callV1I d_S_copy_16 ml_S_67 vk_S_finding rfl ⟨_, rfl, rfl⟩ rfl (Nat.le_of_ble_eq_true rfl) (w_S_finding (X := X) (d := d) _ _) (fun q24 => ?_)
      exact g_ireturn d_S_copy_19 rfl rfl rfl
def f_S_load_L62 (p1 : Int32) : Nat → Int32 → Int32 → Int32 → Int32 → St → Option (Int32 × St)
  | 0, _, _, _, _, _ => none
  | n + 1, y1, y2, y4, y5, S => (if y4 ≤ y5 then some (y5, S) else (if inb y5 40 = true then (if (S (38 + 2 * (p1).toNatClampNeg) (y5).toNatClampNeg) < 0 then some (y5, S) else (if 99 < (S (38 + 2 * (p1).toNatClampNeg) (y5).toNatClampNeg) then some (y5, S) else (if inb (y2 + y5) 40 = true then let S14 := put S 3 ((y2 + y5)).toNatClampNeg (S (38 + 2 * (p1).toNatClampNeg) (y5).toNatClampNeg); f_S_load_L62  p1 n y1 y2 y4 (y5 + 1) S14 else none))) else none))
set_option maxRecDepth 4000 in
theorem w_S_load_L62 {X : xC} {d : Nat}  (p1 : Int32) (hb3 : inb p1 4 = true) : ∀ (n : Nat) (y1 : Int32) (y2 : Int32) (y4 : Int32) (y5 : Int32) (S : St), SemG eI X k_S_load (d + 1) 62 [some (.ref (xB X + 0)), some (.int y1), some (.int y2), some (.ref (xB X + (37 + 2 * (p1).toNatClampNeg))), some (.int y4), some (.int y5)] [] S (f_S_load_L62  p1 n y1 y2 y4 y5 S) := by
  intro n
  induction n with
  | zero => intro _ _ _ _ _; exact g_none
  | succ n ih =>
    intro y1 y2 y4 y5 S
    unfold f_S_load_L62
    refine g_iload d_S_load_62 rfl ?_
    refine g_iload d_S_load_64 rfl ?_
    refine s_icmp_ge d_S_load_66 (fun u9 => ?_) (fun u9 => ?_)
    · refine g_iload d_S_load_116 rfl ?_
      exact g_ireturn d_S_load_118 rfl rfl rfl
    · refine g_aload_n d_S_load_69 rfl ?_
      refine g_getR d_S_load_70 fl_S_213 (sh_at _ (inb_lt hb3)).2.1 rfl ?_
      refine g_iload d_S_load_73 rfl ?_
      refine g_guard (fun hb10 => ?_)
      refine g_ild d_S_load_75 (sh_at _ (inb_lt hb3)).2.2 hb10 rfl ?_
      refine s_if_lt d_S_load_76 (fun u11 => ?_) (fun u11 => ?_)
      · refine g_iload d_S_load_116 rfl ?_
        exact g_ireturn d_S_load_118 rfl rfl rfl
      · refine g_aload_n d_S_load_79 rfl ?_
        refine g_getR d_S_load_80 fl_S_213 (sh_at _ (inb_lt hb3)).2.1 rfl ?_
        refine g_iload d_S_load_83 rfl ?_
        refine g_ild d_S_load_85 (sh_at _ (inb_lt hb3)).2.2 hb10 rfl ?_
        refine g_bipush d_S_load_86 ?_
        refine s_icmp_gt d_S_load_88 (fun u12 => ?_) (fun u12 => ?_)
        · refine g_iload d_S_load_116 rfl ?_
          exact g_ireturn d_S_load_118 rfl rfl rfl
        · refine g_aload_n d_S_load_91 rfl ?_
          refine g_getR d_S_load_92 fl_S_10 rfl rfl ?_
          refine g_getR d_S_load_95 fl_S_29 rfl rfl ?_
          refine g_iload_n d_S_load_98 rfl ?_
          refine g_iload d_S_load_99 rfl ?_
          refine g_iadd d_S_load_101 ?_
          refine g_aload_n d_S_load_102 rfl ?_
          refine g_getR d_S_load_103 fl_S_213 (sh_at _ (inb_lt hb3)).2.1 rfl ?_
          refine g_iload d_S_load_106 rfl ?_
          refine g_ild d_S_load_108 (sh_at _ (inb_lt hb3)).2.2 hb10 rfl ?_
          refine g_guard (fun hb13 => ?_)
          refine g_ist d_S_load_109 rfl hb13 rfl ?_
          refine g_iinc d_S_load_110 (by decide) rfl ?_
          refine g_goto d_S_load_113 ?_
          exact ih _ _ _ _ _
def f_S_load (p1 p2 : Int32) (S : St) : Option (Int32 × St) := ((f_S_isSheet p1 S).bind fun q1 => (if (bI q1.1) = 0 then ((f_S_finding 0 q1.2).bind fun q17 => some (q17.1, q17.2)) else (if inb p1 4 = true then ((f_T_isMissing (37 + 2 * (p1).toNatClampNeg) (38 + 2 * (p1).toNatClampNeg) q1.2).bind fun q4 => (if (bI q4.1) = 0 then ((f_S_isYard p2 q4.2).bind fun q6 => (if (bI q6.1) = 0 then ((f_S_finding 0 q6.2).bind fun q15 => some (q15.1, q15.2)) else let x8 : Int32 := (if (40 - p2) < (q6.2 (37 + 2 * (p1).toNatClampNeg) 2) then (40 - p2) else (q6.2 (37 + 2 * (p1).toNatClampNeg) 2)); f_S_load_L62  p1 200 p1 p2 x8 0 q6.2)) else ((f_S_finding 5 q4.2).bind fun q16 => some (q16.1, q16.2)))) else none)))
set_option maxRecDepth 4000 in
theorem w_S_load {X : xC} {d : Nat}  (p1 p2 : Int32) (S : St) : SemG eI X k_S_load (d + 1) 0 [some (.ref (xB X + 0)), some (.int p1), some (.int p2), none, none, none] [] S (f_S_load  p1 p2 S) := by
  unfold f_S_load
  refine g_iload_n d_S_load_0 rfl ?_
  refine g_callS1B d_S_load_1 ml_S_197 sk_S_isSheet rfl (Nat.le_of_ble_eq_true rfl) (w_S_isSheet (X := X) (d := d) _ _) (fun q1 => ?_)
  refine s_if_ne d_S_load_4 (fun u2 => ?_) (fun u2 => ?_)
  · refine g_aload_n d_S_load_13 rfl ?_
    refine g_getR d_S_load_14 fl_S_56 rfl rfl ?_
    refine g_iload_n d_S_load_17 rfl ?_
    refine g_guard (fun hb3 => ?_)
    refine g_ald (t := 2) d_S_load_18 rfl rfl hb3 (sh_at _ (inb_lt hb3)).1 ?_
    refine g_astore_n d_S_load_19 (by decide) ?_
    refine g_aload_n d_S_load_20 rfl ?_
    refine g_callV0B d_S_load_21 ml_S_207 vk_T_isMissing (sh_at _ (inb_lt hb3)).2.1 ⟨_, rfl, rfl⟩ (Nat.le_of_ble_eq_true rfl) (w_T_isMissing (X := X) (d := d) (sh_at _ (inb_lt hb3)).2.1 (sh_at _ (inb_lt hb3)).2.2 _) (fun q4 => ?_)
    refine s_if_eq d_S_load_24 (fun u5 => ?_) (fun u5 => ?_)
    · refine g_iload_n d_S_load_33 rfl ?_
      refine g_callS1B d_S_load_34 ml_S_63 sk_S_isYard rfl (Nat.le_of_ble_eq_true rfl) (w_S_isYard (X := X) (d := d) _ _) (fun q6 => ?_)
      refine s_if_ne d_S_load_37 (fun u7 => ?_) (fun u7 => ?_)
      · refine g_aload_n d_S_load_46 rfl ?_
        refine g_getI d_S_load_47 fl_S_204 (sh_at _ (inb_lt hb3)).2.1 rfl ?_
        refine g_bipush d_S_load_50 ?_
        refine g_iload_n d_S_load_52 rfl ?_
        refine g_isub d_S_load_53 ?_
        refine g_mmin d_S_load_54 ml_S_228 (Nat.le_of_ble_eq_true rfl) ?_
        refine g_istore d_S_load_57 (by decide) ?_
        refine g_iconst d_S_load_59 ?_
        refine g_istore d_S_load_60 (by decide) ?_
        exact w_S_load_L62 (X := X) (d := d) p1 hb3 200 _ _ _ _ _
      · refine g_aload_n d_S_load_40 rfl ?_
        refine g_iconst d_S_load_41 ?_
        refine g_callV1I d_S_load_42 ml_S_67 vk_S_finding rfl ⟨_, rfl, rfl⟩ rfl (Nat.le_of_ble_eq_true rfl) (w_S_finding (X := X) (d := d) _ _) (fun q15 => ?_)
        exact g_ireturn d_S_load_45 rfl rfl rfl
    · refine g_aload_n d_S_load_27 rfl ?_
      refine g_iconst d_S_load_28 ?_
      refine g_callV1I d_S_load_29 ml_S_67 vk_S_finding rfl ⟨_, rfl, rfl⟩ rfl (Nat.le_of_ble_eq_true rfl) (w_S_finding (X := X) (d := d) _ _) (fun q16 => ?_)
      exact g_ireturn d_S_load_32 rfl rfl rfl
  · refine g_aload_n d_S_load_7 rfl ?_
    refine g_iconst d_S_load_8 ?_
    refine g_callV1I d_S_load_9 ml_S_67 vk_S_finding rfl ⟨_, rfl, rfl⟩ rfl (Nat.le_of_ble_eq_true rfl) (w_S_finding (X := X) (d := d) _ _) (fun q17 => ?_)
    exact g_ireturn d_S_load_12 rfl rfl rfl
def f_S_judge_L46 (p1 : Int32) : Nat → Int32 → Int32 → St → Option (Int32 × St)
  | 0, _, _, _ => none
  | n + 1, y1, y3, S => (if (S (37 + 2 * (p1).toNatClampNeg) 2) ≤ y3 then some (0, S) else ((f_C_isStepDoneBy 22 3 23 y3 S).bind fun q8 => (if (bI q8.1) = 0 then some ((1 + y3), q8.2) else (if inb y3 40 = true then (if (q8.2 23 0) = (q8.2 (38 + 2 * (p1).toNatClampNeg) (y3).toNatClampNeg) then f_S_judge_L46  p1 n y1 (y3 + 1) q8.2 else some ((1 + y3), q8.2)) else none))))
set_option maxRecDepth 4000 in
theorem w_S_judge_L46 {X : xC} {d : Nat}  (p1 : Int32) (hb3 : inb p1 4 = true) : ∀ (n : Nat) (y1 : Int32) (y3 : Int32) (S : St), SemG eI X k_S_judge (d + 6) 46 [some (.ref (xB X + 0)), some (.int y1), some (.ref (xB X + (37 + 2 * (p1).toNatClampNeg))), some (.int y3)] [] S (f_S_judge_L46  p1 n y1 y3 S) := by
  intro n
  induction n with
  | zero => intro _ _ _; exact g_none
  | succ n ih =>
    intro y1 y3 S
    unfold f_S_judge_L46
    refine g_iload_n d_S_judge_46 rfl ?_
    refine g_aload_n d_S_judge_47 rfl ?_
    refine g_getI d_S_judge_48 fl_S_204 (sh_at _ (inb_lt hb3)).2.1 rfl ?_
    refine s_icmp_ge d_S_judge_51 (fun u7 => ?_) (fun u7 => ?_)
    · refine g_iconst d_S_judge_97 ?_
      exact g_ireturn d_S_judge_98 rfl rfl rfl
    · refine g_aload_n d_S_judge_54 rfl ?_
      refine g_getR d_S_judge_55 fl_S_10 rfl rfl ?_
      refine g_aload_n d_S_judge_58 rfl ?_
      refine g_getR d_S_judge_59 fl_S_36 rfl rfl ?_
      refine g_iload_n d_S_judge_62 rfl ?_
      refine g_callV2B d_S_judge_63 ml_S_233 vk_C_isStepDoneBy rfl ⟨_, rfl, rfl⟩ rfl rfl (Nat.le_of_ble_eq_true rfl) (w_C_isStepDoneBy (X := X) (d := d) rfl rfl rfl _ _) (fun q8 => ?_)
      refine s_if_eq d_S_judge_66 (fun u9 => ?_) (fun u9 => ?_)
      · refine g_iconst d_S_judge_87 ?_
        refine g_iload_n d_S_judge_88 rfl ?_
        refine g_iadd d_S_judge_89 ?_
        exact g_ireturn d_S_judge_90 rfl rfl rfl
      · refine g_aload_n d_S_judge_69 rfl ?_
        refine g_getR d_S_judge_70 fl_S_36 rfl rfl ?_
        refine g_getR d_S_judge_73 fl_S_71 rfl rfl ?_
        refine g_iconst d_S_judge_76 ?_
        refine g_ild d_S_judge_77 rfl il_0_10.1 il_0_10.2 ?_
        refine g_aload_n d_S_judge_78 rfl ?_
        refine g_getR d_S_judge_79 fl_S_213 (sh_at _ (inb_lt hb3)).2.1 rfl ?_
        refine g_iload_n d_S_judge_82 rfl ?_
        refine g_guard (fun hb10 => ?_)
        refine g_ild d_S_judge_83 (sh_at _ (inb_lt hb3)).2.2 hb10 rfl ?_
        refine s_icmp_eq d_S_judge_84 (fun u11 => ?_) (fun u11 => ?_)
        · refine g_iinc d_S_judge_91 (by decide) rfl ?_
          refine g_goto d_S_judge_94 ?_
          exact ih _ _ _
        · refine g_iconst d_S_judge_87 ?_
          refine g_iload_n d_S_judge_88 rfl ?_
          refine g_iadd d_S_judge_89 ?_
          exact g_ireturn d_S_judge_90 rfl rfl rfl
def f_S_judge (p1 : Int32) (S : St) : Option (Int32 × St) := ((f_S_isSheet p1 S).bind fun q1 => (if (bI q1.1) = 0 then ((f_S_finding 0 q1.2).bind fun q13 => some (q13.1, q13.2)) else (if inb p1 4 = true then ((f_T_isMissing (37 + 2 * (p1).toNatClampNeg) (38 + 2 * (p1).toNatClampNeg) q1.2).bind fun q4 => (if (bI q4.1) = 0 then ((f_L_become 22 3 23 2 3 4 q4.2).bind fun q6 => f_S_judge_L46  p1 200 p1 0 q6) else ((f_S_finding 5 q4.2).bind fun q12 => some (q12.1, q12.2)))) else none)))
set_option maxRecDepth 4000 in
theorem w_S_judge {X : xC} {d : Nat}  (p1 : Int32) (S : St) : SemG eI X k_S_judge (d + 6) 0 [some (.ref (xB X + 0)), some (.int p1), none, none] [] S (f_S_judge  p1 S) := by
  unfold f_S_judge
  refine g_iload_n d_S_judge_0 rfl ?_
  refine g_callS1B d_S_judge_1 ml_S_197 sk_S_isSheet rfl (Nat.le_of_ble_eq_true rfl) (w_S_isSheet (X := X) (d := d + 5) _ _) (fun q1 => ?_)
  refine s_if_ne d_S_judge_4 (fun u2 => ?_) (fun u2 => ?_)
  · refine g_aload_n d_S_judge_13 rfl ?_
    refine g_getR d_S_judge_14 fl_S_56 rfl rfl ?_
    refine g_iload_n d_S_judge_17 rfl ?_
    refine g_guard (fun hb3 => ?_)
    refine g_ald (t := 2) d_S_judge_18 rfl rfl hb3 (sh_at _ (inb_lt hb3)).1 ?_
    refine g_astore_n d_S_judge_19 (by decide) ?_
    refine g_aload_n d_S_judge_20 rfl ?_
    refine g_callV0B d_S_judge_21 ml_S_207 vk_T_isMissing (sh_at _ (inb_lt hb3)).2.1 ⟨_, rfl, rfl⟩ (Nat.le_of_ble_eq_true rfl) (w_T_isMissing (X := X) (d := d + 5) (sh_at _ (inb_lt hb3)).2.1 (sh_at _ (inb_lt hb3)).2.2 _) (fun q4 => ?_)
    refine s_if_eq d_S_judge_24 (fun u5 => ?_) (fun u5 => ?_)
    · refine g_aload_n d_S_judge_33 rfl ?_
      refine g_getR d_S_judge_34 fl_S_36 rfl rfl ?_
      refine g_aload_n d_S_judge_37 rfl ?_
      refine g_getR d_S_judge_38 fl_S_26 rfl rfl ?_
      refine g_callV1V d_S_judge_41 ml_S_122 vk_L_become rfl ⟨_, rfl, rfl⟩ rfl (Nat.le_of_ble_eq_true rfl) (w_L_become (X := X) (d := d + 4) rfl rfl rfl rfl rfl rfl _) (fun q6 => ?_)
      refine g_iconst d_S_judge_44 ?_
      refine g_istore_n d_S_judge_45 (by decide) ?_
      exact w_S_judge_L46 (X := X) (d := d) p1 hb3 200 _ _ _
    · refine g_aload_n d_S_judge_27 rfl ?_
      refine g_iconst d_S_judge_28 ?_
      refine g_callV1I d_S_judge_29 ml_S_67 vk_S_finding rfl ⟨_, rfl, rfl⟩ rfl (Nat.le_of_ble_eq_true rfl) (w_S_finding (X := X) (d := d + 5) _ _) (fun q12 => ?_)
      exact g_ireturn d_S_judge_32 rfl rfl rfl
  · refine g_aload_n d_S_judge_7 rfl ?_
    refine g_iconst d_S_judge_8 ?_
    refine g_callV1I d_S_judge_9 ml_S_67 vk_S_finding rfl ⟨_, rfl, rfl⟩ rfl (Nat.le_of_ble_eq_true rfl) (w_S_finding (X := X) (d := d + 5) _ _) (fun q13 => ?_)
    exact g_ireturn d_S_judge_12 rfl rfl rfl
def f_C_become_8_1 (S : St) : Option (St) := let S1 := cpy S 3 10 0 0 40; ((f_L_become 9 10 11 2 3 4 S1).bind fun q2 => let S3 := cpy q2 5 12 0 0 10; let S4 := cpy S3 6 13 0 0 10; let S5 := cpy S4 7 14 0 0 20; let S6 := put S5 8 5 (S5 1 5); let S7 := put S6 8 6 (S6 1 6); some S7)
set_option maxRecDepth 4000 in
theorem w_C_become_8_1 {X : xC} {d : Nat}  (S : St) : SemG eV X k_C_become (d + 2) 0 [some (.ref (xB X + 8)), some (.ref (xB X + 1))] [] S (f_C_become_8_1   S) := by
  unfold f_C_become_8_1
  refine g_aload_n d_C_become_0 rfl ?_
  refine g_getR d_C_become_1 fl_C_24 rfl rfl ?_
  refine g_iconst d_C_become_4 ?_
  refine g_aload_n d_C_become_5 rfl ?_
  refine g_getR d_C_become_6 fl_C_24 rfl rfl ?_
  refine g_iconst d_C_become_9 ?_
  refine g_bipush d_C_become_10 ?_
  refine g_copy d_C_become_12 ml_C_44 (Nat.le_of_ble_eq_true rfl) rfl rfl (by decide) ?_
  refine g_aload_n d_C_become_15 rfl ?_
  refine g_getR d_C_become_16 fl_C_14 rfl rfl ?_
  refine g_aload_n d_C_become_19 rfl ?_
  refine g_getR d_C_become_20 fl_C_14 rfl rfl ?_
  refine g_callV1V d_C_become_23 ml_C_50 vk_L_become rfl ⟨_, rfl, rfl⟩ rfl (Nat.le_of_ble_eq_true rfl) (w_L_become (X := X) (d := d) rfl rfl rfl rfl rfl rfl _) (fun q2 => ?_)
  refine g_aload_n d_C_become_26 rfl ?_
  refine g_getR d_C_become_27 fl_C_25 rfl rfl ?_
  refine g_iconst d_C_become_30 ?_
  refine g_aload_n d_C_become_31 rfl ?_
  refine g_getR d_C_become_32 fl_C_25 rfl rfl ?_
  refine g_iconst d_C_become_35 ?_
  refine g_bipush d_C_become_36 ?_
  refine g_copy d_C_become_38 ml_C_44 (Nat.le_of_ble_eq_true rfl) rfl rfl (by decide) ?_
  refine g_aload_n d_C_become_41 rfl ?_
  refine g_getR d_C_become_42 fl_C_28 rfl rfl ?_
  refine g_iconst d_C_become_45 ?_
  refine g_aload_n d_C_become_46 rfl ?_
  refine g_getR d_C_become_47 fl_C_28 rfl rfl ?_
  refine g_iconst d_C_become_50 ?_
  refine g_bipush d_C_become_51 ?_
  refine g_copy d_C_become_53 ml_C_44 (Nat.le_of_ble_eq_true rfl) rfl rfl (by decide) ?_
  refine g_aload_n d_C_become_56 rfl ?_
  refine g_getR d_C_become_57 fl_C_31 rfl rfl ?_
  refine g_iconst d_C_become_60 ?_
  refine g_aload_n d_C_become_61 rfl ?_
  refine g_getR d_C_become_62 fl_C_31 rfl rfl ?_
  refine g_iconst d_C_become_65 ?_
  refine g_bipush d_C_become_66 ?_
  refine g_copy d_C_become_68 ml_C_44 (Nat.le_of_ble_eq_true rfl) rfl rfl (by decide) ?_
  refine g_aload_n d_C_become_71 rfl ?_
  refine g_aload_n d_C_become_72 rfl ?_
  refine g_getI d_C_become_73 fl_C_54 rfl rfl ?_
  refine g_putI d_C_become_76 fl_C_54 ⟨_, rfl, rfl⟩ rfl rfl rfl rfl ?_
  refine g_aload_n d_C_become_79 rfl ?_
  refine g_aload_n d_C_become_80 rfl ?_
  refine g_getI d_C_become_81 fl_C_34 rfl rfl ?_
  refine g_putI d_C_become_84 fl_C_34 ⟨_, rfl, rfl⟩ rfl rfl rfl rfl ?_
  exact g_return d_C_become_87 rfl rfl
def f_S_image (S : St) : Option (Int32 × St) := ((f_C_become_8_1 S).bind fun q1 => let S2 := put q1 0 9 1; some (1, S2))
set_option maxRecDepth 4000 in
theorem w_S_image {X : xC} {d : Nat}  (S : St) : SemG eI X k_S_image (d + 3) 0 [some (.ref (xB X + 0))] [] S (f_S_image   S) := by
  unfold f_S_image
  refine g_aload_n d_S_image_0 rfl ?_
  refine g_getR d_S_image_1 fl_S_16 rfl rfl ?_
  refine g_aload_n d_S_image_4 rfl ?_
  refine g_getR d_S_image_5 fl_S_10 rfl rfl ?_
  refine g_callV1V d_S_image_8 ml_S_144 vk_C_become rfl ⟨_, rfl, rfl⟩ rfl (Nat.le_of_ble_eq_true rfl) (w_C_become_8_1 (X := X) (d := d) _) (fun q1 => ?_)
  refine g_aload_n d_S_image_11 rfl ?_
  refine g_iconst d_S_image_12 ?_
  refine g_putI d_S_image_13 fl_S_237 ⟨_, rfl, rfl⟩ rfl rfl rfl rfl ?_
  refine g_iconst d_S_image_16 ?_
  exact g_ireturn d_S_image_17 rfl rfl rfl
def f_C_become_1_8 (S : St) : Option (St) := let S1 := cpy S 10 3 0 0 40; ((f_L_become 2 3 4 9 10 11 S1).bind fun q2 => let S3 := cpy q2 12 5 0 0 10; let S4 := cpy S3 13 6 0 0 10; let S5 := cpy S4 14 7 0 0 20; let S6 := put S5 1 5 (S5 8 5); let S7 := put S6 1 6 (S6 8 6); some S7)
set_option maxRecDepth 4000 in
theorem w_C_become_1_8 {X : xC} {d : Nat}  (S : St) : SemG eV X k_C_become (d + 2) 0 [some (.ref (xB X + 1)), some (.ref (xB X + 8))] [] S (f_C_become_1_8   S) := by
  unfold f_C_become_1_8
  refine g_aload_n d_C_become_0 rfl ?_
  refine g_getR d_C_become_1 fl_C_24 rfl rfl ?_
  refine g_iconst d_C_become_4 ?_
  refine g_aload_n d_C_become_5 rfl ?_
  refine g_getR d_C_become_6 fl_C_24 rfl rfl ?_
  refine g_iconst d_C_become_9 ?_
  refine g_bipush d_C_become_10 ?_
  refine g_copy d_C_become_12 ml_C_44 (Nat.le_of_ble_eq_true rfl) rfl rfl (by decide) ?_
  refine g_aload_n d_C_become_15 rfl ?_
  refine g_getR d_C_become_16 fl_C_14 rfl rfl ?_
  refine g_aload_n d_C_become_19 rfl ?_
  refine g_getR d_C_become_20 fl_C_14 rfl rfl ?_
  refine g_callV1V d_C_become_23 ml_C_50 vk_L_become rfl ⟨_, rfl, rfl⟩ rfl (Nat.le_of_ble_eq_true rfl) (w_L_become (X := X) (d := d) rfl rfl rfl rfl rfl rfl _) (fun q2 => ?_)
  refine g_aload_n d_C_become_26 rfl ?_
  refine g_getR d_C_become_27 fl_C_25 rfl rfl ?_
  refine g_iconst d_C_become_30 ?_
  refine g_aload_n d_C_become_31 rfl ?_
  refine g_getR d_C_become_32 fl_C_25 rfl rfl ?_
  refine g_iconst d_C_become_35 ?_
  refine g_bipush d_C_become_36 ?_
  refine g_copy d_C_become_38 ml_C_44 (Nat.le_of_ble_eq_true rfl) rfl rfl (by decide) ?_
  refine g_aload_n d_C_become_41 rfl ?_
  refine g_getR d_C_become_42 fl_C_28 rfl rfl ?_
  refine g_iconst d_C_become_45 ?_
  refine g_aload_n d_C_become_46 rfl ?_
  refine g_getR d_C_become_47 fl_C_28 rfl rfl ?_
  refine g_iconst d_C_become_50 ?_
  refine g_bipush d_C_become_51 ?_
  refine g_copy d_C_become_53 ml_C_44 (Nat.le_of_ble_eq_true rfl) rfl rfl (by decide) ?_
  refine g_aload_n d_C_become_56 rfl ?_
  refine g_getR d_C_become_57 fl_C_31 rfl rfl ?_
  refine g_iconst d_C_become_60 ?_
  refine g_aload_n d_C_become_61 rfl ?_
  refine g_getR d_C_become_62 fl_C_31 rfl rfl ?_
  refine g_iconst d_C_become_65 ?_
  refine g_bipush d_C_become_66 ?_
  refine g_copy d_C_become_68 ml_C_44 (Nat.le_of_ble_eq_true rfl) rfl rfl (by decide) ?_
  refine g_aload_n d_C_become_71 rfl ?_
  refine g_aload_n d_C_become_72 rfl ?_
  refine g_getI d_C_become_73 fl_C_54 rfl rfl ?_
  refine g_putI d_C_become_76 fl_C_54 ⟨_, rfl, rfl⟩ rfl rfl rfl rfl ?_
  refine g_aload_n d_C_become_79 rfl ?_
  refine g_aload_n d_C_become_80 rfl ?_
  refine g_getI d_C_become_81 fl_C_34 rfl rfl ?_
  refine g_putI d_C_become_84 fl_C_34 ⟨_, rfl, rfl⟩ rfl rfl rfl rfl ?_
  exact g_return d_C_become_87 rfl rfl
def f_S_undo (S : St) : Option (Int32 × St) := (if (S 0 9) = 0 then ((f_S_finding 3 S).bind fun q3 => some (q3.1, q3.2)) else ((f_C_become_1_8 S).bind fun q2 => some ((q2 4 7), q2)))
set_option maxRecDepth 4000 in
theorem w_S_undo {X : xC} {d : Nat}  (S : St) : SemG eI X k_S_undo (d + 3) 0 [some (.ref (xB X + 0))] [] S (f_S_undo   S) := by
  unfold f_S_undo
  refine g_aload_n d_S_undo_0 rfl ?_
  refine g_getI d_S_undo_1 fl_S_237 rfl rfl ?_
  refine s_if_ne d_S_undo_4 (fun u1 => ?_) (fun u1 => ?_)
  · refine g_aload_n d_S_undo_13 rfl ?_
    refine g_getR d_S_undo_14 fl_S_10 rfl rfl ?_
    refine g_aload_n d_S_undo_17 rfl ?_
    refine g_getR d_S_undo_18 fl_S_16 rfl rfl ?_
    refine g_callV1V d_S_undo_21 ml_S_144 vk_C_become rfl ⟨_, rfl, rfl⟩ rfl (Nat.le_of_ble_eq_true rfl) (w_C_become_1_8 (X := X) (d := d) _) (fun q2 => ?_)
    refine g_aload_n d_S_undo_24 rfl ?_
    refine g_getR d_S_undo_25 fl_S_26 rfl rfl ?_
    refine g_getR d_S_undo_28 fl_S_71 rfl rfl ?_
    refine g_bipush d_S_undo_31 ?_
    refine g_ild d_S_undo_33 rfl il_7_10.1 il_7_10.2 ?_
    exact g_ireturn d_S_undo_34 rfl rfl rfl
  · refine g_aload_n d_S_undo_7 rfl ?_
    refine g_iconst d_S_undo_8 ?_
    refine g_callV1I d_S_undo_9 ml_S_67 vk_S_finding rfl ⟨_, rfl, rfl⟩ rfl (Nat.le_of_ble_eq_true rfl) (w_S_finding (X := X) (d := d + 2) _ _) (fun q3 => ?_)
    exact g_ireturn d_S_undo_12 rfl rfl rfl
def f_S_tear (S : St) : Option (Int32 × St) := let x2 : Int32 := (if (S 0 9) = 0 then 0 else 1); let S3 := put S 0 9 0; some (x2, S3)
set_option maxRecDepth 4000 in
theorem w_S_tear {X : xC} {d : Nat}  (S : St) : SemG eI X k_S_tear (d) 0 [some (.ref (xB X + 0)), none] [] S (f_S_tear   S) := by
  unfold f_S_tear
  refine g_aload_n d_S_tear_0 rfl ?_
  refine g_getI d_S_tear_1 fl_S_237 rfl rfl ?_
  refine m_if_eq d_S_tear_4 (fun hJ1 => g_iconst d_S_tear_11 hJ1) (fun hJ1 => g_iconst d_S_tear_7 (g_goto d_S_tear_8 hJ1)) ?_
  refine g_istore_n d_S_tear_12 (by decide) ?_
  refine g_aload_n d_S_tear_13 rfl ?_
  refine g_iconst d_S_tear_14 ?_
  refine g_putI d_S_tear_15 fl_S_237 ⟨_, rfl, rfl⟩ rfl rfl rfl rfl ?_
  refine g_iload_n d_S_tear_18 rfl ?_
  exact g_ireturn d_S_tear_19 rfl rfl rfl
def f_S_filledOf_L4 (r : Nat) : Nat → Int32 → Int32 → St → Option (Int32 × St)
  | 0, _, _, _ => none
  | n + 1, y1, y2, S => (if 10 ≤ y2 then some (y1, S) else (if inb y2 10 = true then (if (S r (y2).toNatClampNeg) = (-1) then f_S_filledOf_L4 r  n y1 (y2 + 1) S else f_S_filledOf_L4 r  n (y1 + 1) (y2 + 1) S) else none))
set_option maxRecDepth 4000 in
theorem w_S_filledOf_L4 {X : xC} {d : Nat} {r : Nat} (hr : lay[r]? = some (.inl 10))  : ∀ (n : Nat) (y1 : Int32) (y2 : Int32) (S : St), SemG eI X k_S_filledOf (d) 4 [some (.ref (xB X + r)), some (.int y1), some (.int y2)] [] S (f_S_filledOf_L4 r  n y1 y2 S) := by
  intro n
  induction n with
  | zero => intro _ _ _; exact g_none
  | succ n ih =>
    intro y1 y2 S
    unfold f_S_filledOf_L4
    refine g_iload_n d_S_filledOf_4 rfl ?_
    refine g_aload_n d_S_filledOf_5 rfl ?_
    refine g_alen d_S_filledOf_6 hr (v := 10) (by decide) ?_
    refine s_icmp_ge d_S_filledOf_7 (fun u1 => ?_) (fun u1 => ?_)
    · refine g_iload_n d_S_filledOf_26 rfl ?_
      exact g_ireturn d_S_filledOf_27 rfl rfl rfl
    · refine g_aload_n d_S_filledOf_10 rfl ?_
      refine g_iload_n d_S_filledOf_11 rfl ?_
      refine g_guard (fun hb2 => ?_)
      refine g_ild d_S_filledOf_12 hr hb2 rfl ?_
      refine g_iconst d_S_filledOf_13 ?_
      refine s_icmp_eq d_S_filledOf_14 (fun u3 => ?_) (fun u3 => ?_)
      · refine g_iinc d_S_filledOf_20 (by decide) rfl ?_
        refine g_goto d_S_filledOf_23 ?_
        exact ih _ _ _
      · refine g_iinc d_S_filledOf_17 (by decide) rfl ?_
        refine g_iinc d_S_filledOf_20 (by decide) rfl ?_
        refine g_goto d_S_filledOf_23 ?_
        exact ih _ _ _
def f_S_filledOf (r : Nat) (S : St) : Option (Int32 × St) := f_S_filledOf_L4 r  200 0 0 S
set_option maxRecDepth 4000 in
theorem w_S_filledOf {X : xC} {d : Nat} {r : Nat} (hr : lay[r]? = some (.inl 10)) (S : St) : SemG eI X k_S_filledOf (d) 0 [some (.ref (xB X + r)), none, none] [] S (f_S_filledOf r  S) := by
  unfold f_S_filledOf
  refine g_iconst d_S_filledOf_0 ?_
  refine g_istore_n d_S_filledOf_1 (by decide) ?_
  refine g_iconst d_S_filledOf_2 ?_
  refine g_istore_n d_S_filledOf_3 (by decide) ?_
  exact w_S_filledOf_L4 (X := X) (d := d) hr 200 _ _ _
def f_S_count (p1 : Int32) (S : St) : Option (Int32 × St) := (if p1 = 0 then some ((S 1 5), S) else (if p1 = 1 then ((f_S_filledOf 5 S).bind fun q3 => some (q3.1, q3.2)) else (if p1 = 2 then ((f_S_filledOf 6 S).bind fun q5 => some (q5.1, q5.2)) else (if p1 = 3 then some ((S 34 1), S) else (if p1 = 4 then some ((S 1 6), S) else (if p1 = 5 then ((f_C_firmInAll S).bind fun q9 => some (q9.1, q9.2)) else ((f_S_finding 0 S).bind fun q10 => some (q10.1, q10.2))))))))
set_option maxRecDepth 4000 in
theorem w_S_count {X : xC} {d : Nat}  (p1 : Int32) (S : St) : SemG eI X k_S_count (d + 1) 0 [some (.ref (xB X + 0)), some (.int p1)] [] S (f_S_count  p1 S) := by
  unfold f_S_count
  refine g_iload_n d_S_count_0 rfl ?_
  refine g_ite (fun u1 => ?_) (fun u1 => ?_)
  · refine g_tcase (off := 39) (tgt := 40) d_S_count_1 u1 (by decide) ?_
    refine g_aload_n d_S_count_40 rfl ?_
    refine g_getR d_S_count_41 fl_S_10 rfl rfl ?_
    refine g_getI d_S_count_44 fl_S_151 rfl rfl ?_
    exact g_ireturn d_S_count_47 rfl rfl rfl
  refine g_ite (fun u2 => ?_) (fun u2 => ?_)
  · refine g_tcase (off := 47) (tgt := 48) d_S_count_1 u2 (by decide) ?_
    refine g_aload_n d_S_count_48 rfl ?_
    refine g_getR d_S_count_49 fl_S_10 rfl rfl ?_
    refine g_getR d_S_count_52 fl_S_107 rfl rfl ?_
    refine g_callS1I d_S_count_55 ml_S_240 sk_S_filledOf rfl (Nat.le_of_ble_eq_true rfl) (w_S_filledOf (X := X) (d := d) rfl _) (fun q3 => ?_)
    exact g_ireturn d_S_count_58 rfl rfl rfl
  refine g_ite (fun u4 => ?_) (fun u4 => ?_)
  · refine g_tcase (off := 58) (tgt := 59) d_S_count_1 u4 (by decide) ?_
    refine g_aload_n d_S_count_59 rfl ?_
    refine g_getR d_S_count_60 fl_S_10 rfl rfl ?_
    refine g_getR d_S_count_63 fl_S_190 rfl rfl ?_
    refine g_callS1I d_S_count_66 ml_S_240 sk_S_filledOf rfl (Nat.le_of_ble_eq_true rfl) (w_S_filledOf (X := X) (d := d) rfl _) (fun q5 => ?_)
    exact g_ireturn d_S_count_69 rfl rfl rfl
  refine g_ite (fun u6 => ?_) (fun u6 => ?_)
  · refine g_tcase (off := 69) (tgt := 70) d_S_count_1 u6 (by decide) ?_
    refine g_aload_n d_S_count_70 rfl ?_
    refine g_getR d_S_count_71 fl_S_49 rfl rfl ?_
    refine g_getI d_S_count_74 fl_S_137 rfl rfl ?_
    exact g_ireturn d_S_count_77 rfl rfl rfl
  refine g_ite (fun u7 => ?_) (fun u7 => ?_)
  · refine g_tcase (off := 77) (tgt := 78) d_S_count_1 u7 (by decide) ?_
    refine g_aload_n d_S_count_78 rfl ?_
    refine g_getR d_S_count_79 fl_S_10 rfl rfl ?_
    refine g_getI d_S_count_82 fl_S_184 rfl rfl ?_
    exact g_ireturn d_S_count_85 rfl rfl rfl
  refine g_ite (fun u8 => ?_) (fun u8 => ?_)
  · refine g_tcase (off := 85) (tgt := 86) d_S_count_1 u8 (by decide) ?_
    refine g_aload_n d_S_count_86 rfl ?_
    refine g_getR d_S_count_87 fl_S_10 rfl rfl ?_
    refine g_callV0I d_S_count_90 ml_S_101 vk_C_firmInAll rfl ⟨_, rfl, rfl⟩ (Nat.le_of_ble_eq_true rfl) (w_C_firmInAll (X := X) (d := d) _) (fun q9 => ?_)
    exact g_ireturn d_S_count_93 rfl rfl rfl
  have eu1 := ne32 (n := 0) u1 (by decide)
  have eu2 := ne32 (n := 1) u2 (by decide)
  have eu4 := ne32 (n := 2) u4 (by decide)
  have eu6 := ne32 (n := 3) u6 (by decide)
  have eu7 := ne32 (n := 4) u7 (by decide)
  have eu8 := ne32 (n := 5) u8 (by decide)
  refine g_tdef (tgt := 94) d_S_count_1 (by omega) (by decide) ?_
  refine g_aload_n d_S_count_94 rfl ?_
  refine g_iconst d_S_count_95 ?_
  refine g_callV1I d_S_count_96 ml_S_67 vk_S_finding rfl ⟨_, rfl, rfl⟩ rfl (Nat.le_of_ble_eq_true rfl) (w_S_finding (X := X) (d := d) _ _) (fun q10 => ?_)
  exact g_ireturn d_S_count_99 rfl rfl rfl
def f_S_status_L32 : Nat → Int32 → Int32 → Int32 → St → Option (Int32 × St)
  | 0, _, _, _, _ => none
  | n + 1, y1, y2, y3, S => (if 7 ≤ y3 then some (y2, S) else (if inb y3 7 = true then let x7 : Int32 := (y2 + (S 45 (y3).toNatClampNeg)); f_S_status_L32   n y1 x7 (y3 + 1) S else none))
set_option maxRecDepth 4000 in
theorem w_S_status_L32 {X : xC} {d : Nat}   : ∀ (n : Nat) (y1 : Int32) (y2 : Int32) (y3 : Int32) (S : St), SemG eI X k_S_status (d + 1) 32 [some (.ref (xB X + 0)), some (.int y1), some (.int y2), some (.int y3)] [] S (f_S_status_L32   n y1 y2 y3 S) := by
  intro n
  induction n with
  | zero => intro _ _ _ _; exact g_none
  | succ n ih =>
    intro y1 y2 y3 S
    unfold f_S_status_L32
    refine g_iload_n d_S_status_32 rfl ?_
    refine g_bipush d_S_status_33 ?_
    refine s_icmp_ge d_S_status_35 (fun u5 => ?_) (fun u5 => ?_)
    · refine g_iload_n d_S_status_53 rfl ?_
      exact g_ireturn d_S_status_54 rfl rfl rfl
    · refine g_iload_n d_S_status_38 rfl ?_
      refine g_aload_n d_S_status_39 rfl ?_
      refine g_getR d_S_status_40 fl_S_60 rfl rfl ?_
      refine g_iload_n d_S_status_43 rfl ?_
      refine g_guard (fun hb6 => ?_)
      refine g_ild d_S_status_44 rfl hb6 rfl ?_
      refine g_iadd d_S_status_45 ?_
      refine g_istore_n d_S_status_46 (by decide) ?_
      refine g_iinc d_S_status_47 (by decide) rfl ?_
      refine g_goto d_S_status_50 ?_
      exact ih _ _ _ _
def f_S_status (p1 : Int32) (S : St) : Option (Int32 × St) := (if p1 < (-1) then ((f_S_finding 0 S).bind fun q2 => some (q2.1, q2.2)) else (if p1 < 7 then (if p1 < 0 then f_S_status_L32   200 p1 0 0 S else (if inb p1 7 = true then some ((S 45 (p1).toNatClampNeg), S) else none)) else ((f_S_finding 0 S).bind fun q9 => some (q9.1, q9.2))))
set_option maxRecDepth 4000 in
theorem w_S_status {X : xC} {d : Nat}  (p1 : Int32) (S : St) : SemG eI X k_S_status (d + 1) 0 [some (.ref (xB X + 0)), some (.int p1), none, none] [] S (f_S_status  p1 S) := by
  unfold f_S_status
  refine g_iload_n d_S_status_0 rfl ?_
  refine g_iconst d_S_status_1 ?_
  refine s_icmp_lt d_S_status_2 (fun u1 => ?_) (fun u1 => ?_)
  · refine g_aload_n d_S_status_11 rfl ?_
    refine g_iconst d_S_status_12 ?_
    refine g_callV1I d_S_status_13 ml_S_67 vk_S_finding rfl ⟨_, rfl, rfl⟩ rfl (Nat.le_of_ble_eq_true rfl) (w_S_finding (X := X) (d := d) _ _) (fun q2 => ?_)
    exact g_ireturn d_S_status_16 rfl rfl rfl
  · refine g_iload_n d_S_status_5 rfl ?_
    refine g_bipush d_S_status_6 ?_
    refine s_icmp_lt d_S_status_8 (fun u3 => ?_) (fun u3 => ?_)
    · refine g_iload_n d_S_status_17 rfl ?_
      refine s_if_lt d_S_status_18 (fun u4 => ?_) (fun u4 => ?_)
      · refine g_iconst d_S_status_28 ?_
        refine g_istore_n d_S_status_29 (by decide) ?_
        refine g_iconst d_S_status_30 ?_
        refine g_istore_n d_S_status_31 (by decide) ?_
        exact w_S_status_L32 (X := X) (d := d) 200 _ _ _ _
      · refine g_aload_n d_S_status_21 rfl ?_
        refine g_getR d_S_status_22 fl_S_60 rfl rfl ?_
        refine g_iload_n d_S_status_25 rfl ?_
        refine g_guard (fun hb8 => ?_)
        refine g_ild d_S_status_26 rfl hb8 rfl ?_
        exact g_ireturn d_S_status_27 rfl rfl rfl
    · refine g_aload_n d_S_status_11 rfl ?_
      refine g_iconst d_S_status_12 ?_
      refine g_callV1I d_S_status_13 ml_S_67 vk_S_finding rfl ⟨_, rfl, rfl⟩ rfl (Nat.le_of_ble_eq_true rfl) (w_S_finding (X := X) (d := d) _ _) (fun q9 => ?_)
      exact g_ireturn d_S_status_16 rfl rfl rfl
