def f_M_byteAt (p1 : Int32) (S : St) : Option (Int32 × St) := (if (S 46 6) ≤ p1 then some ((-1), S) else (if inb p1 120 = true then some ((S 51 (p1).toNatClampNeg), S) else none))
set_option maxRecDepth 4000 in
theorem w_M_byteAt {X : xC} {d : Nat}  (p1 : Int32) (S : St) : SemG eI X k_M_byteAt (d) 0 [some (.ref (xB X + 46)), some (.int p1)] [] S (f_M_byteAt  p1 S) := by
  unfold f_M_byteAt
  refine g_iload_n d_M_byteAt_0 rfl ?_
  refine g_aload_n d_M_byteAt_1 rfl ?_
  refine g_getI d_M_byteAt_2 fl_M_136 rfl rfl ?_
  refine s_icmp_ge d_M_byteAt_5 (fun u1 => ?_) (fun u1 => ?_)
  · refine g_iconst d_M_byteAt_17 ?_
    exact g_ireturn d_M_byteAt_18 rfl rfl rfl
  · refine g_aload_n d_M_byteAt_8 rfl ?_
    refine g_getR d_M_byteAt_9 fl_M_22 rfl rfl ?_
    refine g_iload_n d_M_byteAt_12 rfl ?_
    refine g_guard (fun hb2 => ?_)
    refine g_ild d_M_byteAt_13 rfl hb2 rfl ?_
    refine g_goto d_M_byteAt_14 ?_
    exact g_ireturn d_M_byteAt_18 rfl rfl rfl
def f_M_next_L123 : Nat → Int32 → St → Option (St)
  | 0, _, _ => none
  | n + 1, y1, S => ((f_M_byteAt (S 46 7) S).bind fun q17 => ((f_M_in q17.1 48 57 q17.2).bind fun q18 => (if (bI q18.1) = 0 then some q18.2 else (if (q18.2 46 10) ≤ 9999 then ((f_M_byteAt (q18.2 46 7) q18.2).bind fun q21 => let S22 := put q21.2 46 10 (((10 * (q18.2 46 10)) + q21.1) - 48); let S23 := put S22 46 7 ((S22 46 7) + 1); f_M_next_L123   n y1 S23) else let S24 := put q18.2 46 10 (q18.2 46 10); let S25 := put S24 46 7 ((S24 46 7) + 1); f_M_next_L123   n y1 S25))))
set_option maxRecDepth 4000 in
theorem w_M_next_L123 {X : xC} {d : Nat}   : ∀ (n : Nat) (y1 : Int32) (S : St), SemG eV X k_M_next (d + 1) 123 [some (.ref (xB X + 46)), some (.int y1)] [] S (f_M_next_L123   n y1 S) := by
  intro n
  induction n with
  | zero => intro _ _; exact g_none
  | succ n ih =>
    intro y1 S
    unfold f_M_next_L123
    refine g_aload_n d_M_next_123 rfl ?_
    refine g_aload_n d_M_next_124 rfl ?_
    refine g_getI d_M_next_125 fl_M_140 rfl rfl ?_
    refine g_callV1I d_M_next_128 ml_M_143 vk_M_byteAt rfl ⟨_, rfl, rfl⟩ rfl (Nat.le_of_ble_eq_true rfl) (w_M_byteAt (X := X) (d := d) _ _) (fun q17 => ?_)
    refine g_bipush d_M_next_131 ?_
    refine g_bipush d_M_next_133 ?_
    refine g_callS3B d_M_next_135 ml_M_45 sk_M_in rfl rfl rfl (Nat.le_of_ble_eq_true rfl) (w_M_in (X := X) (d := d) _ _ _ _) (fun q18 => ?_)
    refine s_if_eq d_M_next_138 (fun u19 => ?_) (fun u19 => ?_)
    · exact g_return d_M_next_219 rfl rfl
    · refine g_aload_n d_M_next_141 rfl ?_
      refine g_aload_n d_M_next_142 rfl ?_
      refine g_getI d_M_next_143 fl_M_152 rfl rfl ?_
      refine g_sipush d_M_next_146 ?_
      refine s_icmp_le d_M_next_149 (fun u20 => ?_) (fun u20 => ?_)
      · refine g_bipush d_M_next_159 ?_
        refine g_aload_n d_M_next_161 rfl ?_
        refine g_getI d_M_next_162 fl_M_152 rfl rfl ?_
        refine g_imul d_M_next_165 ?_
        refine g_aload_n d_M_next_166 rfl ?_
        refine g_aload_n d_M_next_167 rfl ?_
        refine g_getI d_M_next_168 fl_M_140 rfl rfl ?_
        refine g_callV1I d_M_next_171 ml_M_143 vk_M_byteAt rfl ⟨_, rfl, rfl⟩ rfl (Nat.le_of_ble_eq_true rfl) (w_M_byteAt (X := X) (d := d) _ _) (fun q21 => ?_)
        refine g_iadd d_M_next_174 ?_
        refine g_bipush d_M_next_175 ?_
        refine g_isub d_M_next_177 ?_
        refine g_putI d_M_next_178 fl_M_152 ⟨_, rfl, rfl⟩ rfl rfl rfl rfl ?_
        refine g_aload_n d_M_next_181 rfl ?_
        refine g_dup d_M_next_182 rfl ?_
        refine g_getI d_M_next_183 fl_M_140 rfl rfl ?_
        refine g_iconst d_M_next_186 ?_
        refine g_iadd d_M_next_187 ?_
        refine g_putI d_M_next_188 fl_M_140 ⟨_, rfl, rfl⟩ rfl rfl rfl rfl ?_
        refine g_goto d_M_next_191 ?_
        exact ih _ _
      · refine g_aload_n d_M_next_152 rfl ?_
        refine g_getI d_M_next_153 fl_M_152 rfl rfl ?_
        refine g_goto d_M_next_156 ?_
        refine g_putI d_M_next_178 fl_M_152 ⟨_, rfl, rfl⟩ rfl rfl rfl rfl ?_
        refine g_aload_n d_M_next_181 rfl ?_
        refine g_dup d_M_next_182 rfl ?_
        refine g_getI d_M_next_183 fl_M_140 rfl rfl ?_
        refine g_iconst d_M_next_186 ?_
        refine g_iadd d_M_next_187 ?_
        refine g_putI d_M_next_188 fl_M_140 ⟨_, rfl, rfl⟩ rfl rfl rfl rfl ?_
        refine g_goto d_M_next_191 ?_
        exact ih _ _
def f_M_next_L71 : Nat → Int32 → St → Option (St)
  | 0, _, _ => none
  | n + 1, y1, S => ((f_M_byteAt (S 46 7) S).bind fun q27 => ((f_M_in q27.1 97 122 q27.2).bind fun q28 => (if (bI q28.1) = 0 then some q28.2 else let S30 := put q28.2 46 7 ((q28.2 46 7) + 1); f_M_next_L71   n y1 S30)))
set_option maxRecDepth 4000 in
theorem w_M_next_L71 {X : xC} {d : Nat}   : ∀ (n : Nat) (y1 : Int32) (S : St), SemG eV X k_M_next (d + 1) 71 [some (.ref (xB X + 46)), some (.int y1)] [] S (f_M_next_L71   n y1 S) := by
  intro n
  induction n with
  | zero => intro _ _; exact g_none
  | succ n ih =>
    intro y1 S
    unfold f_M_next_L71
    refine g_aload_n d_M_next_71 rfl ?_
    refine g_aload_n d_M_next_72 rfl ?_
    refine g_getI d_M_next_73 fl_M_140 rfl rfl ?_
    refine g_callV1I d_M_next_76 ml_M_143 vk_M_byteAt rfl ⟨_, rfl, rfl⟩ rfl (Nat.le_of_ble_eq_true rfl) (w_M_byteAt (X := X) (d := d) _ _) (fun q27 => ?_)
    refine g_bipush d_M_next_79 ?_
    refine g_bipush d_M_next_81 ?_
    refine g_callS3B d_M_next_83 ml_M_45 sk_M_in rfl rfl rfl (Nat.le_of_ble_eq_true rfl) (w_M_in (X := X) (d := d) _ _ _ _) (fun q28 => ?_)
    refine s_if_eq d_M_next_86 (fun u29 => ?_) (fun u29 => ?_)
    · exact g_return d_M_next_219 rfl rfl
    · refine g_aload_n d_M_next_89 rfl ?_
      refine g_dup d_M_next_90 rfl ?_
      refine g_getI d_M_next_91 fl_M_140 rfl rfl ?_
      refine g_iconst d_M_next_94 ?_
      refine g_iadd d_M_next_95 ?_
      refine g_putI d_M_next_96 fl_M_140 ⟨_, rfl, rfl⟩ rfl rfl rfl rfl ?_
      refine g_goto d_M_next_99 ?_
      exact ih _ _
def f_M_next_L0 : Nat → St → Option (St)
  | 0, _ => none
  | n + 1, S => ((f_M_byteAt (S 46 7) S).bind fun q1 => (if q1.1 = 32 then let S32 := put q1.2 46 7 ((q1.2 46 7) + 1); f_M_next_L0   n  S32 else let S3 := put q1.2 46 9 (q1.2 46 7); ((f_M_byteAt (S3 46 7) S3).bind fun q4 => (if 0 ≤ q4.1 then ((f_M_in q4.1 97 122 q4.2).bind fun q6 => (if (bI q6.1) = 0 then ((f_M_in q4.1 48 57 q6.2).bind fun q8 => (if (bI q8.1) = 0 then let x12 : Int32 := (if q4.1 = 59 then 3 else 4); let S13 := put q8.2 46 8 x12; let S14 := put S13 46 7 ((S13 46 7) + 1); some S14 else let S15 := put q8.2 46 8 2; let S16 := put S15 46 10 0; f_M_next_L123   200 q4.1 S16)) else let S26 := put q6.2 46 8 1; f_M_next_L71   200 q4.1 S26)) else let S31 := put q4.2 46 8 0; some S31))))
set_option maxRecDepth 4000 in
theorem w_M_next_L0 {X : xC} {d : Nat}   : ∀ (n : Nat) (S : St), SemG eV X k_M_next (d + 1) 0 [some (.ref (xB X + 46)), none] [] S (f_M_next_L0   n  S) := by
  intro n
  induction n with
  | zero => intro _; exact g_none
  | succ n ih =>
    intro  S
    unfold f_M_next_L0
    refine g_aload_n d_M_next_0 rfl ?_
    refine g_aload_n d_M_next_1 rfl ?_
    refine g_getI d_M_next_2 fl_M_140 rfl rfl ?_
    refine g_callV1I d_M_next_5 ml_M_143 vk_M_byteAt rfl ⟨_, rfl, rfl⟩ rfl (Nat.le_of_ble_eq_true rfl) (w_M_byteAt (X := X) (d := d) _ _) (fun q1 => ?_)
    refine g_bipush d_M_next_8 ?_
    refine s_icmp_ne d_M_next_10 (fun u2 => ?_) (fun u2 => ?_)
    · refine g_aload_n d_M_next_26 rfl ?_
      refine g_aload_n d_M_next_27 rfl ?_
      refine g_getI d_M_next_28 fl_M_140 rfl rfl ?_
      refine g_putI d_M_next_31 fl_M_146 ⟨_, rfl, rfl⟩ rfl rfl rfl rfl ?_
      refine g_aload_n d_M_next_34 rfl ?_
      refine g_aload_n d_M_next_35 rfl ?_
      refine g_getI d_M_next_36 fl_M_140 rfl rfl ?_
      refine g_callV1I d_M_next_39 ml_M_143 vk_M_byteAt rfl ⟨_, rfl, rfl⟩ rfl (Nat.le_of_ble_eq_true rfl) (w_M_byteAt (X := X) (d := d) _ _) (fun q4 => ?_)
      refine g_istore_n d_M_next_42 (by decide) ?_
      refine g_iload_n d_M_next_43 rfl ?_
      refine s_if_ge d_M_next_44 (fun u5 => ?_) (fun u5 => ?_)
      · refine g_iload_n d_M_next_55 rfl ?_
        refine g_bipush d_M_next_56 ?_
        refine g_bipush d_M_next_58 ?_
        refine g_callS3B d_M_next_60 ml_M_45 sk_M_in rfl rfl rfl (Nat.le_of_ble_eq_true rfl) (w_M_in (X := X) (d := d) _ _ _ _) (fun q6 => ?_)
        refine s_if_eq d_M_next_63 (fun u7 => ?_) (fun u7 => ?_)
        · refine g_iload_n d_M_next_102 rfl ?_
          refine g_bipush d_M_next_103 ?_
          refine g_bipush d_M_next_105 ?_
          refine g_callS3B d_M_next_107 ml_M_45 sk_M_in rfl rfl rfl (Nat.le_of_ble_eq_true rfl) (w_M_in (X := X) (d := d) _ _ _ _) (fun q8 => ?_)
          refine s_if_eq d_M_next_110 (fun u10 => ?_) (fun u10 => ?_)
          · refine g_aload_n d_M_next_194 rfl ?_
            refine g_iload_n d_M_next_195 rfl ?_
            refine g_bipush d_M_next_196 ?_
            refine m_icmp_ne d_M_next_198 (fun hJ11 => g_iconst d_M_next_205 hJ11) (fun hJ11 => g_iconst d_M_next_201 (g_goto d_M_next_202 hJ11)) ?_
            refine g_putI d_M_next_206 fl_M_149 ⟨_, rfl, rfl⟩ rfl rfl rfl rfl ?_
            refine g_aload_n d_M_next_209 rfl ?_
            refine g_dup d_M_next_210 rfl ?_
            refine g_getI d_M_next_211 fl_M_140 rfl rfl ?_
            refine g_iconst d_M_next_214 ?_
            refine g_iadd d_M_next_215 ?_
            refine g_putI d_M_next_216 fl_M_140 ⟨_, rfl, rfl⟩ rfl rfl rfl rfl ?_
            exact g_return d_M_next_219 rfl rfl
          · refine g_aload_n d_M_next_113 rfl ?_
            refine g_iconst d_M_next_114 ?_
            refine g_putI d_M_next_115 fl_M_149 ⟨_, rfl, rfl⟩ rfl rfl rfl rfl ?_
            refine g_aload_n d_M_next_118 rfl ?_
            refine g_iconst d_M_next_119 ?_
            refine g_putI d_M_next_120 fl_M_152 ⟨_, rfl, rfl⟩ rfl rfl rfl rfl ?_
            exact w_M_next_L123 (X := X) (d := d) 200 _ _
        · refine g_aload_n d_M_next_66 rfl ?_
          refine g_iconst d_M_next_67 ?_
          refine g_putI d_M_next_68 fl_M_149 ⟨_, rfl, rfl⟩ rfl rfl rfl rfl ?_
          exact w_M_next_L71 (X := X) (d := d) 200 _ _
      · refine g_aload_n d_M_next_47 rfl ?_
        refine g_iconst d_M_next_48 ?_
        refine g_putI d_M_next_49 fl_M_149 ⟨_, rfl, rfl⟩ rfl rfl rfl rfl ?_
        refine g_goto d_M_next_52 ?_
        exact g_return d_M_next_219 rfl rfl
    · refine g_aload_n d_M_next_13 rfl ?_
      refine g_dup d_M_next_14 rfl ?_
      refine g_getI d_M_next_15 fl_M_140 rfl rfl ?_
      refine g_iconst d_M_next_18 ?_
      refine g_iadd d_M_next_19 ?_
      refine g_putI d_M_next_20 fl_M_140 ⟨_, rfl, rfl⟩ rfl rfl rfl rfl ?_
      refine g_goto d_M_next_23 ?_
      exact ih _
def f_M_next (S : St) : Option (St) := f_M_next_L0   200  S
set_option maxRecDepth 4000 in
theorem w_M_next {X : xC} {d : Nat}  (S : St) : SemG eV X k_M_next (d + 1) 0 [some (.ref (xB X + 46)), none] [] S (f_M_next   S) := by
  unfold f_M_next
  exact w_M_next_L0 (X := X) (d := d) 200 _
def f_M_isWord_L32 (w : Nat) : Nat → Bool → Int32 → St → Option (Bool × St)
  | 0, _, _, _ => none
  | n + 1, y2, y3, S => (if (wl w) ≤ y3 then some (y2, S) else (if (bI y2) = 0 then some (y2, S) else (if inb ((S 46 9) + y3) 120 = true then (if inb y3 (wn w) = true then let x7 : Int32 := (if (S 51 (((S 46 9) + y3)).toNatClampNeg) = (wc w (y3).toNatClampNeg) then 1 else 0); f_M_isWord_L32 w  n ((if (S 51 (((S 46 9) + y3)).toNatClampNeg) = (wc w (y3).toNatClampNeg) then true else false)) (y3 + 1) S else none) else none)))
set_option maxRecDepth 4000 in
theorem w_M_isWord_L32 {X : xC} {d : Nat} {sA : Nat → Nat} (hs : XTxt X sA) {w : Nat} (hw : w < 14)  : ∀ (n : Nat) (y2 : Bool) (y3 : Int32) (S : St), SemG eB X k_M_isWord (d + 4) 32 [some (.ref (xB X + 46)), some (.ref (sA w)), some (.int (bI y2)), some (.int y3)] [] S (f_M_isWord_L32 w  n y2 y3 S) := by
  intro n
  induction n with
  | zero => intro _ _ _; exact g_none
  | succ n ih =>
    intro y2 y3 S
    unfold f_M_isWord_L32
    refine g_iload_n d_M_isWord_32 rfl ?_
    refine g_aload_n d_M_isWord_33 rfl ?_
    refine g_strlen d_M_isWord_34 ml_M_155 hs (Nat.le_of_ble_eq_true rfl) hw ?_
    refine s_icmp_ge d_M_isWord_37 (fun u2 => ?_) (fun u2 => ?_)
    · refine g_iload_n d_M_isWord_75 rfl ?_
      refine g_zreturn d_M_isWord_76 rfl ?_ rfl
      rfl
    · refine g_iload_n d_M_isWord_40 rfl ?_
      refine s_if_eq d_M_isWord_41 (fun u3 => ?_) (fun u3 => ?_)
      · refine g_iload_n d_M_isWord_75 rfl ?_
        refine g_zreturn d_M_isWord_76 rfl ?_ rfl
        rfl
      · refine g_aload_n d_M_isWord_44 rfl ?_
        refine g_getR d_M_isWord_45 fl_M_22 rfl rfl ?_
        refine g_aload_n d_M_isWord_48 rfl ?_
        refine g_getI d_M_isWord_49 fl_M_146 rfl rfl ?_
        refine g_iload_n d_M_isWord_52 rfl ?_
        refine g_iadd d_M_isWord_53 ?_
        refine g_guard (fun hb4 => ?_)
        refine g_ild d_M_isWord_54 rfl hb4 rfl ?_
        refine g_aload_n d_M_isWord_55 rfl ?_
        refine g_iload_n d_M_isWord_56 rfl ?_
        refine g_guard (fun hb5 => ?_)
        refine g_charAt d_M_isWord_57 ml_M_160 hs (Nat.le_of_ble_eq_true rfl) hw hb5 ?_
        refine m_icmp_ne d_M_isWord_60 (fun hJ6 => g_iconst d_M_isWord_67 hJ6) (fun hJ6 => g_iconst d_M_isWord_63 (g_goto d_M_isWord_64 hJ6)) ?_
        refine g_fold (y := bI (if (S 51 (((S 46 9) + y3)).toNatClampNeg) = (wc w (y3).toNatClampNeg) then true else false)) (by (repeat' split) <;> rfl) ?_
        refine g_istore_n d_M_isWord_68 (by decide) ?_
        refine g_iinc d_M_isWord_69 (by decide) rfl ?_
        refine g_goto d_M_isWord_72 ?_
        exact ih _ _ _
def f_M_isWord (w : Nat) (S : St) : Option (Bool × St) := (if (S 46 8) = 1 then let x9 : Int32 := (if ((S 46 7) - (S 46 9)) = (wl w) then 1 else 0); f_M_isWord_L32 w  200 ((if ((S 46 7) - (S 46 9)) = (wl w) then true else false)) 0 S else f_M_isWord_L32 w  200 false 0 S)
set_option maxRecDepth 4000 in
theorem w_M_isWord {X : xC} {d : Nat} {sA : Nat → Nat} (hs : XTxt X sA) {w : Nat} (hw : w < 14) (S : St) : SemG eB X k_M_isWord (d + 4) 0 [some (.ref (xB X + 46)), some (.ref (sA w)), none, none] [] S (f_M_isWord w  S) := by
  unfold f_M_isWord
  refine g_aload_n d_M_isWord_0 rfl ?_
  refine g_getI d_M_isWord_1 fl_M_149 rfl rfl ?_
  refine g_iconst d_M_isWord_4 ?_
  refine s_icmp_ne d_M_isWord_5 (fun u1 => ?_) (fun u1 => ?_)
  · refine g_iconst d_M_isWord_28 ?_
    refine g_istore_n d_M_isWord_29 (by decide) ?_
    refine g_iconst d_M_isWord_30 ?_
    refine g_istore_n d_M_isWord_31 (by decide) ?_
    exact w_M_isWord_L32 (X := X) (d := d) hs hw 200 _ _ _
  · refine g_aload_n d_M_isWord_8 rfl ?_
    refine g_getI d_M_isWord_9 fl_M_140 rfl rfl ?_
    refine g_aload_n d_M_isWord_12 rfl ?_
    refine g_getI d_M_isWord_13 fl_M_146 rfl rfl ?_
    refine g_isub d_M_isWord_16 ?_
    refine g_aload_n d_M_isWord_17 rfl ?_
    refine g_strlen d_M_isWord_18 ml_M_155 hs (Nat.le_of_ble_eq_true rfl) hw ?_
    refine m_icmp_ne d_M_isWord_21 (fun hJ8 => g_iconst d_M_isWord_28 hJ8) (fun hJ8 => g_iconst d_M_isWord_24 (g_goto d_M_isWord_25 hJ8)) ?_
    refine g_fold (y := bI (if ((S 46 7) - (S 46 9)) = (wl w) then true else false)) (by (repeat' split) <;> rfl) ?_
    refine g_istore_n d_M_isWord_29 (by decide) ?_
    refine g_iconst d_M_isWord_30 ?_
    refine g_istore_n d_M_isWord_31 (by decide) ?_
    exact w_M_isWord_L32 (X := X) (d := d) hs hw 200 _ _ _
def f_M_isNumber (p1 p2 : Int32) (S : St) : Option (Bool × St) := (if (S 46 8) = 2 then ((f_M_in (S 46 10) p1 p2 S).bind fun q2 => let x4 : Int32 := (if (bI q2.1) = 0 then 0 else 1); some ((if (bI q2.1) = 0 then false else true), q2.2)) else some (false, S))
set_option maxRecDepth 4000 in
theorem w_M_isNumber {X : xC} {d : Nat}  (p1 p2 : Int32) (S : St) : SemG eB X k_M_isNumber (d + 1) 0 [some (.ref (xB X + 46)), some (.int p1), some (.int p2)] [] S (f_M_isNumber  p1 p2 S) := by
  unfold f_M_isNumber
  refine g_aload_n d_M_isNumber_0 rfl ?_
  refine g_getI d_M_isNumber_1 fl_M_149 rfl rfl ?_
  refine g_iconst d_M_isNumber_4 ?_
  refine s_icmp_ne d_M_isNumber_5 (fun u1 => ?_) (fun u1 => ?_)
  · refine g_iconst d_M_isNumber_24 ?_
    refine g_zreturn d_M_isNumber_25 rfl ?_ rfl
    rfl
  · refine g_aload_n d_M_isNumber_8 rfl ?_
    refine g_getI d_M_isNumber_9 fl_M_152 rfl rfl ?_
    refine g_iload_n d_M_isNumber_12 rfl ?_
    refine g_iload_n d_M_isNumber_13 rfl ?_
    refine g_callS3B d_M_isNumber_14 ml_M_45 sk_M_in rfl rfl rfl (Nat.le_of_ble_eq_true rfl) (w_M_in (X := X) (d := d) _ _ _ _) (fun q2 => ?_)
    refine m_if_eq d_M_isNumber_17 (fun hJ3 => g_iconst d_M_isNumber_24 hJ3) (fun hJ3 => g_iconst d_M_isNumber_20 (g_goto d_M_isNumber_21 hJ3)) ?_
    refine g_zreturn d_M_isNumber_25 rfl ?_ rfl
    (repeat' split) <;> rfl
def f_M_takesSand_L27 : Nat → Int32 → Int32 → St → Option (Bool × St)
  | 0, _, _, _ => none
  | n + 1, y1, y2, S => ((f_M_isNumber 0 99 S).bind fun q5 => (if (bI q5.1) = 0 then let x9 : Int32 := (if y2 ≤ 0 then 0 else (if (q5.2 46 8) = 2 then 0 else 1)); some ((if y2 ≤ 0 then false else (if (q5.2 46 8) = 2 then false else true)), q5.2) else (if 40 ≤ y1 then let x13 : Int32 := (if y2 ≤ 0 then 0 else (if (q5.2 46 8) = 2 then 0 else 1)); some ((if y2 ≤ 0 then false else (if (q5.2 46 8) = 2 then false else true)), q5.2) else (if inb (12 + y1) 92 = true then let S15 := put q5.2 47 ((12 + y1)).toNatClampNeg (q5.2 46 10); ((f_M_next S15).bind fun q16 => f_M_takesSand_L27   n (y1 + 1) (y2 + 1) q16) else none))))
set_option maxRecDepth 4000 in
theorem w_M_takesSand_L27 {X : xC} {d : Nat}   : ∀ (n : Nat) (y1 : Int32) (y2 : Int32) (S : St), SemG eB X k_M_takesSand (d + 2) 27 [some (.ref (xB X + 46)), some (.int y1), some (.int y2)] [] S (f_M_takesSand_L27   n y1 y2 S) := by
  intro n
  induction n with
  | zero => intro _ _ _; exact g_none
  | succ n ih =>
    intro y1 y2 S
    unfold f_M_takesSand_L27
    refine g_aload_n d_M_takesSand_27 rfl ?_
    refine g_iconst d_M_takesSand_28 ?_
    refine g_bipush d_M_takesSand_29 ?_
    refine g_callV2B d_M_takesSand_31 ml_M_167 vk_M_isNumber rfl ⟨_, rfl, rfl⟩ rfl rfl (Nat.le_of_ble_eq_true rfl) (w_M_isNumber (X := X) (d := d) _ _ _) (fun q5 => ?_)
    refine s_if_eq d_M_takesSand_34 (fun u6 => ?_) (fun u6 => ?_)
    · refine g_iload_n d_M_takesSand_69 rfl ?_
      refine m_if_le d_M_takesSand_70 (fun hJ8 => g_iconst d_M_takesSand_85 hJ8) (fun hJ8 => g_aload_n d_M_takesSand_73 rfl (g_getI d_M_takesSand_74 fl_M_149 rfl rfl (g_iconst d_M_takesSand_77 (m_icmp_eq d_M_takesSand_78 (fun hJ7 => g_iconst d_M_takesSand_85 hJ7) (fun hJ7 => g_iconst d_M_takesSand_81 (g_goto d_M_takesSand_82 hJ7)) hJ8)))) ?_
      refine g_zreturn d_M_takesSand_86 rfl ?_ rfl
      (repeat' split) <;> rfl
    · refine g_iload_n d_M_takesSand_37 rfl ?_
      refine g_bipush d_M_takesSand_38 ?_
      refine s_icmp_ge d_M_takesSand_40 (fun u10 => ?_) (fun u10 => ?_)
      · refine g_iload_n d_M_takesSand_69 rfl ?_
        refine m_if_le d_M_takesSand_70 (fun hJ12 => g_iconst d_M_takesSand_85 hJ12) (fun hJ12 => g_aload_n d_M_takesSand_73 rfl (g_getI d_M_takesSand_74 fl_M_149 rfl rfl (g_iconst d_M_takesSand_77 (m_icmp_eq d_M_takesSand_78 (fun hJ11 => g_iconst d_M_takesSand_85 hJ11) (fun hJ11 => g_iconst d_M_takesSand_81 (g_goto d_M_takesSand_82 hJ11)) hJ12)))) ?_
        refine g_zreturn d_M_takesSand_86 rfl ?_ rfl
        (repeat' split) <;> rfl
      · refine g_aload_n d_M_takesSand_43 rfl ?_
        refine g_getR d_M_takesSand_44 fl_M_7 rfl rfl ?_
        refine g_bipush d_M_takesSand_47 ?_
        refine g_iload_n d_M_takesSand_49 rfl ?_
        refine g_iadd d_M_takesSand_50 ?_
        refine g_aload_n d_M_takesSand_51 rfl ?_
        refine g_getI d_M_takesSand_52 fl_M_152 rfl rfl ?_
        refine g_guard (fun hb14 => ?_)
        refine g_ist d_M_takesSand_55 rfl hb14 rfl ?_
        refine g_iinc d_M_takesSand_56 (by decide) rfl ?_
        refine g_iinc d_M_takesSand_59 (by decide) rfl ?_
        refine g_aload_n d_M_takesSand_62 rfl ?_
        refine g_callV0V d_M_takesSand_63 ml_M_164 vk_M_next rfl ⟨_, rfl, rfl⟩ (Nat.le_of_ble_eq_true rfl) (w_M_next (X := X) (d := d) _) (fun q16 => ?_)
        refine g_goto d_M_takesSand_66 ?_
        exact ih _ _ _
def f_M_takesSand (S : St) : Option (Bool × St) := ((f_M_next S).bind fun q1 => ((f_M_isNumber 0 39 q1).bind fun q2 => (if (bI q2.1) = 0 then some (false, q2.2) else ((f_M_next q2.2).bind fun q4 => f_M_takesSand_L27   200 (q2.2 46 10) 0 q4))))
set_option maxRecDepth 4000 in
theorem w_M_takesSand {X : xC} {d : Nat}  (S : St) : SemG eB X k_M_takesSand (d + 2) 0 [some (.ref (xB X + 46)), none, none] [] S (f_M_takesSand   S) := by
  unfold f_M_takesSand
  refine g_aload_n d_M_takesSand_0 rfl ?_
  refine g_callV0V d_M_takesSand_1 ml_M_164 vk_M_next rfl ⟨_, rfl, rfl⟩ (Nat.le_of_ble_eq_true rfl) (w_M_next (X := X) (d := d) _) (fun q1 => ?_)
  refine g_aload_n d_M_takesSand_4 rfl ?_
  refine g_iconst d_M_takesSand_5 ?_
  refine g_bipush d_M_takesSand_6 ?_
  refine g_callV2B d_M_takesSand_8 ml_M_167 vk_M_isNumber rfl ⟨_, rfl, rfl⟩ rfl rfl (Nat.le_of_ble_eq_true rfl) (w_M_isNumber (X := X) (d := d) _ _ _) (fun q2 => ?_)
  refine s_if_ne d_M_takesSand_11 (fun u3 => ?_) (fun u3 => ?_)
  · refine g_aload_n d_M_takesSand_16 rfl ?_
    refine g_getI d_M_takesSand_17 fl_M_152 rfl rfl ?_
    refine g_istore_n d_M_takesSand_20 (by decide) ?_
    refine g_iconst d_M_takesSand_21 ?_
    refine g_istore_n d_M_takesSand_22 (by decide) ?_
    refine g_aload_n d_M_takesSand_23 rfl ?_
    refine g_callV0V d_M_takesSand_24 ml_M_164 vk_M_next rfl ⟨_, rfl, rfl⟩ (Nat.le_of_ble_eq_true rfl) (w_M_next (X := X) (d := d) _) (fun q4 => ?_)
    exact w_M_takesSand_L27 (X := X) (d := d) 200 _ _ _
  · refine g_iconst d_M_takesSand_14 ?_
    refine g_zreturn d_M_takesSand_15 rfl ?_ rfl
    rfl
def f_M_takesSet (p1 : Int32) (S : St) : Option (Bool × St) := ((f_M_next S).bind fun q1 => (if (q1 46 8) = 2 then ((f_M_isSet p1 (q1 46 10) q1).bind fun q3 => (if (bI q3.1) = 0 then some (false, q3.2) else (if inb p1 92 = true then let S6 := put q3.2 47 (p1).toNatClampNeg (q3.2 46 10); ((f_M_next S6).bind fun q7 => some (true, q7)) else none))) else some (false, q1)))
set_option maxRecDepth 4000 in
theorem w_M_takesSet {X : xC} {d : Nat}  (p1 : Int32) (S : St) : SemG eB X k_M_takesSet (d + 2) 0 [some (.ref (xB X + 46)), some (.int p1)] [] S (f_M_takesSet  p1 S) := by
  unfold f_M_takesSet
  refine g_aload_n d_M_takesSet_0 rfl ?_
  refine g_callV0V d_M_takesSet_1 ml_M_164 vk_M_next rfl ⟨_, rfl, rfl⟩ (Nat.le_of_ble_eq_true rfl) (w_M_next (X := X) (d := d) _) (fun q1 => ?_)
  refine g_aload_n d_M_takesSet_4 rfl ?_
  refine g_getI d_M_takesSet_5 fl_M_149 rfl rfl ?_
  refine g_iconst d_M_takesSet_8 ?_
  refine s_icmp_ne d_M_takesSet_9 (fun u2 => ?_) (fun u2 => ?_)
  · refine g_iconst d_M_takesSet_23 ?_
    refine g_zreturn d_M_takesSet_24 rfl ?_ rfl
    rfl
  · refine g_iload_n d_M_takesSet_12 rfl ?_
    refine g_aload_n d_M_takesSet_13 rfl ?_
    refine g_getI d_M_takesSet_14 fl_M_152 rfl rfl ?_
    refine g_callS2B d_M_takesSet_17 ml_M_71 sk_M_isSet rfl rfl (Nat.le_of_ble_eq_true rfl) (w_M_isSet (X := X) (d := d) _ _ _) (fun q3 => ?_)
    refine s_if_ne d_M_takesSet_20 (fun u4 => ?_) (fun u4 => ?_)
    · refine g_aload_n d_M_takesSet_25 rfl ?_
      refine g_getR d_M_takesSet_26 fl_M_7 rfl rfl ?_
      refine g_iload_n d_M_takesSet_29 rfl ?_
      refine g_aload_n d_M_takesSet_30 rfl ?_
      refine g_getI d_M_takesSet_31 fl_M_152 rfl rfl ?_
      refine g_guard (fun hb5 => ?_)
      refine g_ist d_M_takesSet_34 rfl hb5 rfl ?_
      refine g_aload_n d_M_takesSet_35 rfl ?_
      refine g_callV0V d_M_takesSet_36 ml_M_164 vk_M_next rfl ⟨_, rfl, rfl⟩ (Nat.le_of_ble_eq_true rfl) (w_M_next (X := X) (d := d) _) (fun q7 => ?_)
      refine g_iconst d_M_takesSet_39 ?_
      refine g_zreturn d_M_takesSet_40 rfl ?_ rfl
      rfl
    · refine g_iconst d_M_takesSet_23 ?_
      refine g_zreturn d_M_takesSet_24 rfl ?_ rfl
      rfl
def f_M_takesKind_L65 : Nat → Int32 → Int32 → Int32 → St → Option (Bool × St)
  | 0, _, _, _, _ => none
  | n + 1, y1, y2, y3, S => (if y2 ≤ y3 then some (true, S) else (if inb (72 + (S 47 11)) 92 = true then let S6 := put S 47 ((72 + (S 47 11))).toNatClampNeg y1; let S7 := put S6 47 11 ((S6 47 11) + 1); f_M_takesKind_L65   n y1 y2 (y3 + 1) S7 else none))
set_option maxRecDepth 4000 in
theorem w_M_takesKind_L65 {X : xC} {d : Nat}   : ∀ (n : Nat) (y1 : Int32) (y2 : Int32) (y3 : Int32) (S : St), SemG eB X k_M_takesKind (d + 2) 65 [some (.ref (xB X + 46)), some (.int y1), some (.int y2), some (.int y3)] [] S (f_M_takesKind_L65   n y1 y2 y3 S) := by
  intro n
  induction n with
  | zero => intro _ _ _ _; exact g_none
  | succ n ih =>
    intro y1 y2 y3 S
    unfold f_M_takesKind_L65
    refine g_iload_n d_M_takesKind_65 rfl ?_
    refine g_iload_n d_M_takesKind_66 rfl ?_
    refine s_icmp_ge d_M_takesKind_67 (fun u4 => ?_) (fun u4 => ?_)
    · refine g_iconst d_M_takesKind_103 ?_
      refine g_zreturn d_M_takesKind_104 rfl ?_ rfl
      rfl
    · refine g_aload_n d_M_takesKind_70 rfl ?_
      refine g_getR d_M_takesKind_71 fl_M_7 rfl rfl ?_
      refine g_bipush d_M_takesKind_74 ?_
      refine g_aload_n d_M_takesKind_76 rfl ?_
      refine g_getR d_M_takesKind_77 fl_M_7 rfl rfl ?_
      refine g_bipush d_M_takesKind_80 ?_
      refine g_ild d_M_takesKind_82 rfl il_11_92.1 il_11_92.2 ?_
      refine g_iadd d_M_takesKind_83 ?_
      refine g_iload_n d_M_takesKind_84 rfl ?_
      refine g_guard (fun hb5 => ?_)
      refine g_ist d_M_takesKind_85 rfl hb5 rfl ?_
      refine g_aload_n d_M_takesKind_86 rfl ?_
      refine g_getR d_M_takesKind_87 fl_M_7 rfl rfl ?_
      refine g_bipush d_M_takesKind_90 ?_
      refine g_dup2 d_M_takesKind_92 rfl rfl ?_
      refine g_ild d_M_takesKind_93 rfl il_11_92.1 il_11_92.2 ?_
      refine g_iconst d_M_takesKind_94 ?_
      refine g_iadd d_M_takesKind_95 ?_
      refine g_ist d_M_takesKind_96 rfl il_11_92.1 il_11_92.2 ?_
      refine g_iinc d_M_takesKind_97 (by decide) rfl ?_
      refine g_goto d_M_takesKind_100 ?_
      exact ih _ _ _ _
def f_M_takesKind (p1 : Int32) (S : St) : Option (Bool × St) := (if (S 47 11) = 20 then some (false, S) else ((f_M_next S).bind fun q2 => (if (q2 46 8) = 2 then ((f_M_in (q2 46 10) 1 9 q2).bind fun q8 => (if (bI q8.1) = 0 then some (false, q8.2) else (if ((q8.2 47 11) + (q2 46 10)) ≤ 20 then ((f_M_next q8.2).bind fun q11 => f_M_takesKind_L65   200 p1 (q2 46 10) 0 q11) else some (false, q8.2)))) else f_M_takesKind_L65   200 p1 1 0 q2)))
set_option maxRecDepth 4000 in
theorem w_M_takesKind {X : xC} {d : Nat}  (p1 : Int32) (S : St) : SemG eB X k_M_takesKind (d + 2) 0 [some (.ref (xB X + 46)), some (.int p1), none, none] [] S (f_M_takesKind  p1 S) := by
  unfold f_M_takesKind
  refine g_aload_n d_M_takesKind_0 rfl ?_
  refine g_getR d_M_takesKind_1 fl_M_7 rfl rfl ?_
  refine g_bipush d_M_takesKind_4 ?_
  refine g_ild d_M_takesKind_6 rfl il_11_92.1 il_11_92.2 ?_
  refine g_bipush d_M_takesKind_7 ?_
  refine s_icmp_ne d_M_takesKind_9 (fun u1 => ?_) (fun u1 => ?_)
  · refine g_aload_n d_M_takesKind_14 rfl ?_
    refine g_callV0V d_M_takesKind_15 ml_M_164 vk_M_next rfl ⟨_, rfl, rfl⟩ (Nat.le_of_ble_eq_true rfl) (w_M_next (X := X) (d := d) _) (fun q2 => ?_)
    refine g_iconst d_M_takesKind_18 ?_
    refine g_istore_n d_M_takesKind_19 (by decide) ?_
    refine g_aload_n d_M_takesKind_20 rfl ?_
    refine g_getI d_M_takesKind_21 fl_M_149 rfl rfl ?_
    refine g_iconst d_M_takesKind_24 ?_
    refine s_icmp_ne d_M_takesKind_25 (fun u3 => ?_) (fun u3 => ?_)
    · refine g_iconst d_M_takesKind_63 ?_
      refine g_istore_n d_M_takesKind_64 (by decide) ?_
      exact w_M_takesKind_L65 (X := X) (d := d) 200 _ _ _ _
    · refine g_aload_n d_M_takesKind_28 rfl ?_
      refine g_getI d_M_takesKind_29 fl_M_152 rfl rfl ?_
      refine g_istore_n d_M_takesKind_32 (by decide) ?_
      refine g_iload_n d_M_takesKind_33 rfl ?_
      refine g_iconst d_M_takesKind_34 ?_
      refine g_bipush d_M_takesKind_35 ?_
      refine g_callS3B d_M_takesKind_37 ml_M_45 sk_M_in rfl rfl rfl (Nat.le_of_ble_eq_true rfl) (w_M_in (X := X) (d := d + 1) _ _ _ _) (fun q8 => ?_)
      refine s_if_eq d_M_takesKind_40 (fun u9 => ?_) (fun u9 => ?_)
      · refine g_iconst d_M_takesKind_57 ?_
        refine g_zreturn d_M_takesKind_58 rfl ?_ rfl
        rfl
      · refine g_aload_n d_M_takesKind_43 rfl ?_
        refine g_getR d_M_takesKind_44 fl_M_7 rfl rfl ?_
        refine g_bipush d_M_takesKind_47 ?_
        refine g_ild d_M_takesKind_49 rfl il_11_92.1 il_11_92.2 ?_
        refine g_iload_n d_M_takesKind_50 rfl ?_
        refine g_iadd d_M_takesKind_51 ?_
        refine g_bipush d_M_takesKind_52 ?_
        refine s_icmp_le d_M_takesKind_54 (fun u10 => ?_) (fun u10 => ?_)
        · refine g_aload_n d_M_takesKind_59 rfl ?_
          refine g_callV0V d_M_takesKind_60 ml_M_164 vk_M_next rfl ⟨_, rfl, rfl⟩ (Nat.le_of_ble_eq_true rfl) (w_M_next (X := X) (d := d) _) (fun q11 => ?_)
          refine g_iconst d_M_takesKind_63 ?_
          refine g_istore_n d_M_takesKind_64 (by decide) ?_
          exact w_M_takesKind_L65 (X := X) (d := d) 200 _ _ _ _
        · refine g_iconst d_M_takesKind_57 ?_
          refine g_zreturn d_M_takesKind_58 rfl ?_ rfl
          rfl
  · refine g_iconst d_M_takesKind_12 ?_
    refine g_zreturn d_M_takesKind_13 rfl ?_ rfl
    rfl
def f_M_takesItem (S : St) : Option (Bool × St) := ((f_M_isWord 8 S).bind fun q1 => (if (bI q1.1) = 0 then ((f_M_isWord 9 q1.2).bind fun q3 => (if (bI q3.1) = 0 then ((f_M_isWord 10 q3.2).bind fun q5 => (if (bI q5.1) = 0 then ((f_M_isWord 11 q5.2).bind fun q7 => (if (bI q7.1) = 0 then ((f_M_isWord 12 q7.2).bind fun q9 => (if (bI q9.1) = 0 then ((f_M_isWord 13 q9.2).bind fun q11 => let x13 : Int32 := (if (bI q11.1) = 0 then (-1) else 6); (if x13 = (-1) then ((f_M_isWord 0 q11.2).bind fun q15 => (if (bI q15.1) = 0 then ((f_M_isWord 1 q15.2).bind fun q17 => (if (bI q17.1) = 0 then ((f_M_isWord 2 q17.2).bind fun q19 => (if (bI q19.1) = 0 then ((f_M_isWord 3 q19.2).bind fun q21 => (if (bI q21.1) = 0 then ((f_M_isWord 4 q21.2).bind fun q23 => (if (bI q23.1) = 0 then ((f_M_isWord 5 q23.2).bind fun q25 => (if (bI q25.1) = 0 then ((f_M_isWord 6 q25.2).bind fun q27 => (if (bI q27.1) = 0 then ((f_M_isWord 7 q27.2).bind fun q29 => let x31 : Int32 := (if (bI q29.1) = 0 then (-1) else 7); (if x31 = (-1) then some (false, q29.2) else ((f_M_takesKind x31 q29.2).bind fun q33 => let x35 : Int32 := (if (bI q33.1) = 0 then 0 else 1); some ((if (bI q33.1) = 0 then false else true), q33.2)))) else ((f_M_takesKind 6 q27.2).bind fun q36 => let x38 : Int32 := (if (bI q36.1) = 0 then 0 else 1); some ((if (bI q36.1) = 0 then false else true), q36.2)))) else ((f_M_takesKind 5 q25.2).bind fun q39 => let x41 : Int32 := (if (bI q39.1) = 0 then 0 else 1); some ((if (bI q39.1) = 0 then false else true), q39.2)))) else ((f_M_takesKind 4 q23.2).bind fun q42 => let x44 : Int32 := (if (bI q42.1) = 0 then 0 else 1); some ((if (bI q42.1) = 0 then false else true), q42.2)))) else ((f_M_takesKind 3 q21.2).bind fun q45 => let x47 : Int32 := (if (bI q45.1) = 0 then 0 else 1); some ((if (bI q45.1) = 0 then false else true), q45.2)))) else ((f_M_takesKind 2 q19.2).bind fun q48 => let x50 : Int32 := (if (bI q48.1) = 0 then 0 else 1); some ((if (bI q48.1) = 0 then false else true), q48.2)))) else ((f_M_takesKind 1 q17.2).bind fun q51 => let x53 : Int32 := (if (bI q51.1) = 0 then 0 else 1); some ((if (bI q51.1) = 0 then false else true), q51.2)))) else ((f_M_takesKind 0 q15.2).bind fun q54 => let x56 : Int32 := (if (bI q54.1) = 0 then 0 else 1); some ((if (bI q54.1) = 0 then false else true), q54.2)))) else ((f_M_takesSet x13 q11.2).bind fun q57 => some (q57.1, q57.2)))) else ((f_M_takesSet 5 q9.2).bind fun q58 => some (q58.1, q58.2)))) else ((f_M_takesSet 4 q7.2).bind fun q59 => some (q59.1, q59.2)))) else ((f_M_takesSet 3 q5.2).bind fun q60 => some (q60.1, q60.2)))) else ((f_M_takesSet 2 q3.2).bind fun q61 => some (q61.1, q61.2)))) else ((f_M_takesSand q1.2).bind fun q62 => some (q62.1, q62.2))))
set_option maxRecDepth 4000 in
theorem w_M_takesItem {X : xC} {d : Nat} {sA : Nat → Nat} (hs : XTxt X sA)  (S : St) : SemG eB X k_M_takesItem (d + 5) 0 [some (.ref (xB X + 46)), none, none] [] S (f_M_takesItem   S) := by
  unfold f_M_takesItem
  refine g_aload_n d_M_takesItem_0 rfl ?_
  refine g_ldcS d_M_takesItem_1 hs st_M_170 ?_
  refine g_callV1B d_M_takesItem_3 ml_M_172 vk_M_isWord rfl ⟨_, rfl, rfl⟩ rfl (Nat.le_of_ble_eq_true rfl) (w_M_isWord (X := X) (d := d) hs (by decide) _) (fun q1 => ?_)
  refine s_if_eq d_M_takesItem_6 (fun u2 => ?_) (fun u2 => ?_)
  · refine g_aload_n d_M_takesItem_14 rfl ?_
    refine g_ldcS d_M_takesItem_15 hs st_M_179 ?_
    refine g_callV1B d_M_takesItem_17 ml_M_172 vk_M_isWord rfl ⟨_, rfl, rfl⟩ rfl (Nat.le_of_ble_eq_true rfl) (w_M_isWord (X := X) (d := d) hs (by decide) _) (fun q3 => ?_)
    refine s_if_eq d_M_takesItem_20 (fun u4 => ?_) (fun u4 => ?_)
    · refine g_aload_n d_M_takesItem_27 rfl ?_
      refine g_ldcS d_M_takesItem_28 hs st_M_181 ?_
      refine g_callV1B d_M_takesItem_30 ml_M_172 vk_M_isWord rfl ⟨_, rfl, rfl⟩ rfl (Nat.le_of_ble_eq_true rfl) (w_M_isWord (X := X) (d := d) hs (by decide) _) (fun q5 => ?_)
      refine s_if_eq d_M_takesItem_33 (fun u6 => ?_) (fun u6 => ?_)
      · refine g_aload_n d_M_takesItem_40 rfl ?_
        refine g_ldcS d_M_takesItem_41 hs st_M_183 ?_
        refine g_callV1B d_M_takesItem_43 ml_M_172 vk_M_isWord rfl ⟨_, rfl, rfl⟩ rfl (Nat.le_of_ble_eq_true rfl) (w_M_isWord (X := X) (d := d) hs (by decide) _) (fun q7 => ?_)
        refine s_if_eq d_M_takesItem_46 (fun u8 => ?_) (fun u8 => ?_)
        · refine g_aload_n d_M_takesItem_53 rfl ?_
          refine g_ldcS d_M_takesItem_54 hs st_M_185 ?_
          refine g_callV1B d_M_takesItem_56 ml_M_172 vk_M_isWord rfl ⟨_, rfl, rfl⟩ rfl (Nat.le_of_ble_eq_true rfl) (w_M_isWord (X := X) (d := d) hs (by decide) _) (fun q9 => ?_)
          refine s_if_eq d_M_takesItem_59 (fun u10 => ?_) (fun u10 => ?_)
          · refine g_aload_n d_M_takesItem_66 rfl ?_
            refine g_ldcS d_M_takesItem_67 hs st_M_187 ?_
            refine g_callV1B d_M_takesItem_69 ml_M_172 vk_M_isWord rfl ⟨_, rfl, rfl⟩ rfl (Nat.le_of_ble_eq_true rfl) (w_M_isWord (X := X) (d := d) hs (by decide) _) (fun q11 => ?_)
            refine m_if_eq d_M_takesItem_72 (fun hJ12 => g_iconst d_M_takesItem_80 hJ12) (fun hJ12 => g_bipush d_M_takesItem_75 (g_goto d_M_takesItem_77 hJ12)) ?_
            refine g_istore_n d_M_takesItem_81 (by decide) ?_
            refine g_iload_n d_M_takesItem_82 rfl ?_
            refine g_iconst d_M_takesItem_83 ?_
            refine s_icmp_eq d_M_takesItem_84 (fun u14 => ?_) (fun u14 => ?_)
            · refine g_aload_n d_M_takesItem_93 rfl ?_
              refine g_ldcS d_M_takesItem_94 hs st_M_192 ?_
              refine g_callV1B d_M_takesItem_96 ml_M_172 vk_M_isWord rfl ⟨_, rfl, rfl⟩ rfl (Nat.le_of_ble_eq_true rfl) (w_M_isWord (X := X) (d := d) hs (by decide) _) (fun q15 => ?_)
              refine s_if_eq d_M_takesItem_99 (fun u16 => ?_) (fun u16 => ?_)
              · refine g_aload_n d_M_takesItem_106 rfl ?_
                refine g_ldcS d_M_takesItem_107 hs st_M_194 ?_
                refine g_callV1B d_M_takesItem_109 ml_M_172 vk_M_isWord rfl ⟨_, rfl, rfl⟩ rfl (Nat.le_of_ble_eq_true rfl) (w_M_isWord (X := X) (d := d) hs (by decide) _) (fun q17 => ?_)
                refine s_if_eq d_M_takesItem_112 (fun u18 => ?_) (fun u18 => ?_)
                · refine g_aload_n d_M_takesItem_119 rfl ?_
                  refine g_ldcS d_M_takesItem_120 hs st_M_196 ?_
                  refine g_callV1B d_M_takesItem_122 ml_M_172 vk_M_isWord rfl ⟨_, rfl, rfl⟩ rfl (Nat.le_of_ble_eq_true rfl) (w_M_isWord (X := X) (d := d) hs (by decide) _) (fun q19 => ?_)
                  refine s_if_eq d_M_takesItem_125 (fun u20 => ?_) (fun u20 => ?_)
                  · refine g_aload_n d_M_takesItem_132 rfl ?_
                    refine g_ldcS d_M_takesItem_133 hs st_M_198 ?_
                    refine g_callV1B d_M_takesItem_135 ml_M_172 vk_M_isWord rfl ⟨_, rfl, rfl⟩ rfl (Nat.le_of_ble_eq_true rfl) (w_M_isWord (X := X) (d := d) hs (by decide) _) (fun q21 => ?_)
                    refine s_if_eq d_M_takesItem_138 (fun u22 => ?_) (fun u22 => ?_)
                    · refine g_aload_n d_M_takesItem_145 rfl ?_
                      refine g_ldcS d_M_takesItem_146 hs st_M_200 ?_
                      refine g_callV1B d_M_takesItem_148 ml_M_172 vk_M_isWord rfl ⟨_, rfl, rfl⟩ rfl (Nat.le_of_ble_eq_true rfl) (w_M_isWord (X := X) (d := d) hs (by decide) _) (fun q23 => ?_)
                      refine s_if_eq d_M_takesItem_151 (fun u24 => ?_) (fun u24 => ?_)
                      · refine g_aload_n d_M_takesItem_158 rfl ?_
                        refine g_ldcS d_M_takesItem_159 hs st_M_202 ?_
                        refine g_callV1B d_M_takesItem_161 ml_M_172 vk_M_isWord rfl ⟨_, rfl, rfl⟩ rfl (Nat.le_of_ble_eq_true rfl) (w_M_isWord (X := X) (d := d) hs (by decide) _) (fun q25 => ?_)
                        refine s_if_eq d_M_takesItem_164 (fun u26 => ?_) (fun u26 => ?_)
                        · refine g_aload_n d_M_takesItem_171 rfl ?_
                          refine g_ldcS d_M_takesItem_172 hs st_M_204 ?_
                          refine g_callV1B d_M_takesItem_174 ml_M_172 vk_M_isWord rfl ⟨_, rfl, rfl⟩ rfl (Nat.le_of_ble_eq_true rfl) (w_M_isWord (X := X) (d := d) hs (by decide) _) (fun q27 => ?_)
                          refine s_if_eq d_M_takesItem_177 (fun u28 => ?_) (fun u28 => ?_)
                          · refine g_aload_n d_M_takesItem_185 rfl ?_
                            refine g_ldcS d_M_takesItem_186 hs st_M_206 ?_
                            refine g_callV1B d_M_takesItem_188 ml_M_172 vk_M_isWord rfl ⟨_, rfl, rfl⟩ rfl (Nat.le_of_ble_eq_true rfl) (w_M_isWord (X := X) (d := d) hs (by decide) _) (fun q29 => ?_)
                            refine m_if_eq d_M_takesItem_191 (fun hJ30 => g_iconst d_M_takesItem_199 hJ30) (fun hJ30 => g_bipush d_M_takesItem_194 (g_goto d_M_takesItem_196 hJ30)) ?_
                            refine g_istore_n d_M_takesItem_200 (by decide) ?_
                            refine g_iload_n d_M_takesItem_201 rfl ?_
                            refine g_iconst d_M_takesItem_202 ?_
                            refine s_icmp_eq d_M_takesItem_203 (fun u32 => ?_) (fun u32 => ?_)
                            · refine g_iconst d_M_takesItem_218 ?_
                              refine g_zreturn d_M_takesItem_219 rfl ?_ rfl
                              rfl
                            · refine g_aload_n d_M_takesItem_206 rfl ?_
                              refine g_iload_n d_M_takesItem_207 rfl ?_
                              refine g_callV1B d_M_takesItem_208 ml_M_208 vk_M_takesKind rfl ⟨_, rfl, rfl⟩ rfl (Nat.le_of_ble_eq_true rfl) (w_M_takesKind (X := X) (d := d + 2) _ _) (fun q33 => ?_)
                              refine m_if_eq d_M_takesItem_211 (fun hJ34 => g_iconst d_M_takesItem_218 hJ34) (fun hJ34 => g_iconst d_M_takesItem_214 (g_goto d_M_takesItem_215 hJ34)) ?_
                              refine g_zreturn d_M_takesItem_219 rfl ?_ rfl
                              (repeat' split) <;> rfl
                          · refine g_bipush d_M_takesItem_180 ?_
                            refine g_goto d_M_takesItem_182 ?_
                            refine g_istore_n d_M_takesItem_200 (by decide) ?_
                            refine g_iload_n d_M_takesItem_201 rfl ?_
                            refine g_iconst d_M_takesItem_202 ?_
                            refine g_icmp_eq d_M_takesItem_203 (fun h => absurd h (by decide)) (fun _ => ?_)
                            refine g_aload_n d_M_takesItem_206 rfl ?_
                            refine g_iload_n d_M_takesItem_207 rfl ?_
                            refine g_callV1B d_M_takesItem_208 ml_M_208 vk_M_takesKind rfl ⟨_, rfl, rfl⟩ rfl (Nat.le_of_ble_eq_true rfl) (w_M_takesKind (X := X) (d := d + 2) _ _) (fun q36 => ?_)
                            refine m_if_eq d_M_takesItem_211 (fun hJ37 => g_iconst d_M_takesItem_218 hJ37) (fun hJ37 => g_iconst d_M_takesItem_214 (g_goto d_M_takesItem_215 hJ37)) ?_
                            refine g_zreturn d_M_takesItem_219 rfl ?_ rfl
                            (repeat' split) <;> rfl
                        · refine g_iconst d_M_takesItem_167 ?_
                          refine g_goto d_M_takesItem_168 ?_
                          refine g_istore_n d_M_takesItem_200 (by decide) ?_
                          refine g_iload_n d_M_takesItem_201 rfl ?_
                          refine g_iconst d_M_takesItem_202 ?_
                          refine g_icmp_eq d_M_takesItem_203 (fun h => absurd h (by decide)) (fun _ => ?_)
                          refine g_aload_n d_M_takesItem_206 rfl ?_
                          refine g_iload_n d_M_takesItem_207 rfl ?_
                          refine g_callV1B d_M_takesItem_208 ml_M_208 vk_M_takesKind rfl ⟨_, rfl, rfl⟩ rfl (Nat.le_of_ble_eq_true rfl) (w_M_takesKind (X := X) (d := d + 2) _ _) (fun q39 => ?_)
                          refine m_if_eq d_M_takesItem_211 (fun hJ40 => g_iconst d_M_takesItem_218 hJ40) (fun hJ40 => g_iconst d_M_takesItem_214 (g_goto d_M_takesItem_215 hJ40)) ?_
                          refine g_zreturn d_M_takesItem_219 rfl ?_ rfl
                          (repeat' split) <;> rfl
                      · refine g_iconst d_M_takesItem_154 ?_
                        refine g_goto d_M_takesItem_155 ?_
                        refine g_istore_n d_M_takesItem_200 (by decide) ?_
                        refine g_iload_n d_M_takesItem_201 rfl ?_
                        refine g_iconst d_M_takesItem_202 ?_
                        refine g_icmp_eq d_M_takesItem_203 (fun h => absurd h (by decide)) (fun _ => ?_)
                        refine g_aload_n d_M_takesItem_206 rfl ?_
                        refine g_iload_n d_M_takesItem_207 rfl ?_
                        refine g_callV1B d_M_takesItem_208 ml_M_208 vk_M_takesKind rfl ⟨_, rfl, rfl⟩ rfl (Nat.le_of_ble_eq_true rfl) (w_M_takesKind (X := X) (d := d + 2) _ _) (fun q42 => ?_)
                        refine m_if_eq d_M_takesItem_211 (fun hJ43 => g_iconst d_M_takesItem_218 hJ43) (fun hJ43 => g_iconst d_M_takesItem_214 (g_goto d_M_takesItem_215 hJ43)) ?_
                        refine g_zreturn d_M_takesItem_219 rfl ?_ rfl
                        (repeat' split) <;> rfl
                    · refine g_iconst d_M_takesItem_141 ?_
                      refine g_goto d_M_takesItem_142 ?_
                      refine g_istore_n d_M_takesItem_200 (by decide) ?_
                      refine g_iload_n d_M_takesItem_201 rfl ?_
                      refine g_iconst d_M_takesItem_202 ?_
                      refine g_icmp_eq d_M_takesItem_203 (fun h => absurd h (by decide)) (fun _ => ?_)
                      refine g_aload_n d_M_takesItem_206 rfl ?_
                      refine g_iload_n d_M_takesItem_207 rfl ?_
                      refine g_callV1B d_M_takesItem_208 ml_M_208 vk_M_takesKind rfl ⟨_, rfl, rfl⟩ rfl (Nat.le_of_ble_eq_true rfl) (w_M_takesKind (X := X) (d := d + 2) _ _) (fun q45 => ?_)
                      refine m_if_eq d_M_takesItem_211 (fun hJ46 => g_iconst d_M_takesItem_218 hJ46) (fun hJ46 => g_iconst d_M_takesItem_214 (g_goto d_M_takesItem_215 hJ46)) ?_
                      refine g_zreturn d_M_takesItem_219 rfl ?_ rfl
                      (repeat' split) <;> rfl
                  · refine g_iconst d_M_takesItem_128 ?_
                    refine g_goto d_M_takesItem_129 ?_
                    refine g_istore_n d_M_takesItem_200 (by decide) ?_
                    refine g_iload_n d_M_takesItem_201 rfl ?_
                    refine g_iconst d_M_takesItem_202 ?_
                    refine g_icmp_eq d_M_takesItem_203 (fun h => absurd h (by decide)) (fun _ => ?_)
                    refine g_aload_n d_M_takesItem_206 rfl ?_
                    refine g_iload_n d_M_takesItem_207 rfl ?_
                    refine g_callV1B d_M_takesItem_208 ml_M_208 vk_M_takesKind rfl ⟨_, rfl, rfl⟩ rfl (Nat.le_of_ble_eq_true rfl) (w_M_takesKind (X := X) (d := d + 2) _ _) (fun q48 => ?_)
                    refine m_if_eq d_M_takesItem_211 (fun hJ49 => g_iconst d_M_takesItem_218 hJ49) (fun hJ49 => g_iconst d_M_takesItem_214 (g_goto d_M_takesItem_215 hJ49)) ?_
                    refine g_zreturn d_M_takesItem_219 rfl ?_ rfl
                    (repeat' split) <;> rfl
                · refine g_iconst d_M_takesItem_115 ?_
                  refine g_goto d_M_takesItem_116 ?_
                  refine g_istore_n d_M_takesItem_200 (by decide) ?_
                  refine g_iload_n d_M_takesItem_201 rfl ?_
                  refine g_iconst d_M_takesItem_202 ?_
                  refine g_icmp_eq d_M_takesItem_203 (fun h => absurd h (by decide)) (fun _ => ?_)
                  refine g_aload_n d_M_takesItem_206 rfl ?_
                  refine g_iload_n d_M_takesItem_207 rfl ?_
                  refine g_callV1B d_M_takesItem_208 ml_M_208 vk_M_takesKind rfl ⟨_, rfl, rfl⟩ rfl (Nat.le_of_ble_eq_true rfl) (w_M_takesKind (X := X) (d := d + 2) _ _) (fun q51 => ?_)
                  refine m_if_eq d_M_takesItem_211 (fun hJ52 => g_iconst d_M_takesItem_218 hJ52) (fun hJ52 => g_iconst d_M_takesItem_214 (g_goto d_M_takesItem_215 hJ52)) ?_
                  refine g_zreturn d_M_takesItem_219 rfl ?_ rfl
                  (repeat' split) <;> rfl
              · refine g_iconst d_M_takesItem_102 ?_
                refine g_goto d_M_takesItem_103 ?_
                refine g_istore_n d_M_takesItem_200 (by decide) ?_
                refine g_iload_n d_M_takesItem_201 rfl ?_
                refine g_iconst d_M_takesItem_202 ?_
                refine g_icmp_eq d_M_takesItem_203 (fun h => absurd h (by decide)) (fun _ => ?_)
                refine g_aload_n d_M_takesItem_206 rfl ?_
                refine g_iload_n d_M_takesItem_207 rfl ?_
                refine g_callV1B d_M_takesItem_208 ml_M_208 vk_M_takesKind rfl ⟨_, rfl, rfl⟩ rfl (Nat.le_of_ble_eq_true rfl) (w_M_takesKind (X := X) (d := d + 2) _ _) (fun q54 => ?_)
                refine m_if_eq d_M_takesItem_211 (fun hJ55 => g_iconst d_M_takesItem_218 hJ55) (fun hJ55 => g_iconst d_M_takesItem_214 (g_goto d_M_takesItem_215 hJ55)) ?_
                refine g_zreturn d_M_takesItem_219 rfl ?_ rfl
                (repeat' split) <;> rfl
            · refine g_aload_n d_M_takesItem_87 rfl ?_
              refine g_iload_n d_M_takesItem_88 rfl ?_
              refine g_callV1B d_M_takesItem_89 ml_M_189 vk_M_takesSet rfl ⟨_, rfl, rfl⟩ rfl (Nat.le_of_ble_eq_true rfl) (w_M_takesSet (X := X) (d := d + 2) _ _) (fun q57 => ?_)
              refine g_zreturn d_M_takesItem_92 rfl ?_ rfl
              rfl
          · refine g_iconst d_M_takesItem_62 ?_
            refine g_goto d_M_takesItem_63 ?_
            refine g_istore_n d_M_takesItem_81 (by decide) ?_
            refine g_iload_n d_M_takesItem_82 rfl ?_
            refine g_iconst d_M_takesItem_83 ?_
            refine g_icmp_eq d_M_takesItem_84 (fun h => absurd h (by decide)) (fun _ => ?_)
            refine g_aload_n d_M_takesItem_87 rfl ?_
            refine g_iload_n d_M_takesItem_88 rfl ?_
            refine g_callV1B d_M_takesItem_89 ml_M_189 vk_M_takesSet rfl ⟨_, rfl, rfl⟩ rfl (Nat.le_of_ble_eq_true rfl) (w_M_takesSet (X := X) (d := d + 2) _ _) (fun q58 => ?_)
            refine g_zreturn d_M_takesItem_92 rfl ?_ rfl
            rfl
        · refine g_iconst d_M_takesItem_49 ?_
          refine g_goto d_M_takesItem_50 ?_
          refine g_istore_n d_M_takesItem_81 (by decide) ?_
          refine g_iload_n d_M_takesItem_82 rfl ?_
          refine g_iconst d_M_takesItem_83 ?_
          refine g_icmp_eq d_M_takesItem_84 (fun h => absurd h (by decide)) (fun _ => ?_)
          refine g_aload_n d_M_takesItem_87 rfl ?_
          refine g_iload_n d_M_takesItem_88 rfl ?_
          refine g_callV1B d_M_takesItem_89 ml_M_189 vk_M_takesSet rfl ⟨_, rfl, rfl⟩ rfl (Nat.le_of_ble_eq_true rfl) (w_M_takesSet (X := X) (d := d + 2) _ _) (fun q59 => ?_)
          refine g_zreturn d_M_takesItem_92 rfl ?_ rfl
          rfl
      · refine g_iconst d_M_takesItem_36 ?_
        refine g_goto d_M_takesItem_37 ?_
        refine g_istore_n d_M_takesItem_81 (by decide) ?_
        refine g_iload_n d_M_takesItem_82 rfl ?_
        refine g_iconst d_M_takesItem_83 ?_
        refine g_icmp_eq d_M_takesItem_84 (fun h => absurd h (by decide)) (fun _ => ?_)
        refine g_aload_n d_M_takesItem_87 rfl ?_
        refine g_iload_n d_M_takesItem_88 rfl ?_
        refine g_callV1B d_M_takesItem_89 ml_M_189 vk_M_takesSet rfl ⟨_, rfl, rfl⟩ rfl (Nat.le_of_ble_eq_true rfl) (w_M_takesSet (X := X) (d := d + 2) _ _) (fun q60 => ?_)
        refine g_zreturn d_M_takesItem_92 rfl ?_ rfl
        rfl
    · refine g_iconst d_M_takesItem_23 ?_
      refine g_goto d_M_takesItem_24 ?_
      refine g_istore_n d_M_takesItem_81 (by decide) ?_
      refine g_iload_n d_M_takesItem_82 rfl ?_
      refine g_iconst d_M_takesItem_83 ?_
      refine g_icmp_eq d_M_takesItem_84 (fun h => absurd h (by decide)) (fun _ => ?_)
      refine g_aload_n d_M_takesItem_87 rfl ?_
      refine g_iload_n d_M_takesItem_88 rfl ?_
      refine g_callV1B d_M_takesItem_89 ml_M_189 vk_M_takesSet rfl ⟨_, rfl, rfl⟩ rfl (Nat.le_of_ble_eq_true rfl) (w_M_takesSet (X := X) (d := d + 2) _ _) (fun q61 => ?_)
      refine g_zreturn d_M_takesItem_92 rfl ?_ rfl
      rfl
  · refine g_aload_n d_M_takesItem_9 rfl ?_
    refine g_callV0B d_M_takesItem_10 ml_M_176 vk_M_takesSand rfl ⟨_, rfl, rfl⟩ (Nat.le_of_ble_eq_true rfl) (w_M_takesSand (X := X) (d := d + 2) _) (fun q62 => ?_)
    refine g_zreturn d_M_takesItem_13 rfl ?_ rfl
    rfl
def f_M_takesAll_L18 : Nat → St → Option (Bool × St)
  | 0, _ => none
  | n + 1, S => (if (S 46 8) = 3 then ((f_M_next S).bind fun q8 => ((f_M_takesItem q8).bind fun q9 => (if (bI q9.1) = 0 then some (false, q9.2) else f_M_takesAll_L18   n  q9.2))) else let x7 : Int32 := (if (S 46 8) = 0 then 1 else 0); some ((if (S 46 8) = 0 then true else false), S))
set_option maxRecDepth 4000 in
theorem w_M_takesAll_L18 {X : xC} {d : Nat} {sA : Nat → Nat} (hs : XTxt X sA)   : ∀ (n : Nat) (S : St), SemG eB X k_M_takesAll (d + 6) 18 [some (.ref (xB X + 46))] [] S (f_M_takesAll_L18   n  S) := by
  intro n
  induction n with
  | zero => intro _; exact g_none
  | succ n ih =>
    intro  S
    unfold f_M_takesAll_L18
    refine g_aload_n d_M_takesAll_18 rfl ?_
    refine g_getI d_M_takesAll_19 fl_M_149 rfl rfl ?_
    refine g_iconst d_M_takesAll_22 ?_
    refine s_icmp_ne d_M_takesAll_23 (fun u5 => ?_) (fun u5 => ?_)
    · refine g_aload_n d_M_takesAll_39 rfl ?_
      refine g_getI d_M_takesAll_40 fl_M_149 rfl rfl ?_
      refine m_if_ne d_M_takesAll_43 (fun hJ6 => g_iconst d_M_takesAll_50 hJ6) (fun hJ6 => g_iconst d_M_takesAll_46 (g_goto d_M_takesAll_47 hJ6)) ?_
      refine g_zreturn d_M_takesAll_51 rfl ?_ rfl
      (repeat' split) <;> rfl
    · refine g_aload_n d_M_takesAll_26 rfl ?_
      refine g_callV0V d_M_takesAll_27 ml_M_164 vk_M_next rfl ⟨_, rfl, rfl⟩ (Nat.le_of_ble_eq_true rfl) (w_M_next (X := X) (d := d + 4) _) (fun q8 => ?_)
      refine g_aload_n d_M_takesAll_30 rfl ?_
      refine g_callV0B d_M_takesAll_31 ml_M_211 vk_M_takesItem rfl ⟨_, rfl, rfl⟩ (Nat.le_of_ble_eq_true rfl) (w_M_takesItem (X := X) (d := d) hs _) (fun q9 => ?_)
      refine s_if_ne d_M_takesAll_34 (fun u10 => ?_) (fun u10 => ?_)
      · exact ih _
      · refine g_iconst d_M_takesAll_37 ?_
        refine g_zreturn d_M_takesAll_38 rfl ?_ rfl
        rfl
def f_M_takesAll (S : St) : Option (Bool × St) := let S1 := put S 46 7 0; ((f_M_next S1).bind fun q2 => ((f_M_takesItem q2).bind fun q3 => (if (bI q3.1) = 0 then some (false, q3.2) else f_M_takesAll_L18   200  q3.2)))
set_option maxRecDepth 4000 in
theorem w_M_takesAll {X : xC} {d : Nat} {sA : Nat → Nat} (hs : XTxt X sA)  (S : St) : SemG eB X k_M_takesAll (d + 6) 0 [some (.ref (xB X + 46))] [] S (f_M_takesAll   S) := by
  unfold f_M_takesAll
  refine g_aload_n d_M_takesAll_0 rfl ?_
  refine g_iconst d_M_takesAll_1 ?_
  refine g_putI d_M_takesAll_2 fl_M_140 ⟨_, rfl, rfl⟩ rfl rfl rfl rfl ?_
  refine g_aload_n d_M_takesAll_5 rfl ?_
  refine g_callV0V d_M_takesAll_6 ml_M_164 vk_M_next rfl ⟨_, rfl, rfl⟩ (Nat.le_of_ble_eq_true rfl) (w_M_next (X := X) (d := d + 4) _) (fun q2 => ?_)
  refine g_aload_n d_M_takesAll_9 rfl ?_
  refine g_callV0B d_M_takesAll_10 ml_M_211 vk_M_takesItem rfl ⟨_, rfl, rfl⟩ (Nat.le_of_ble_eq_true rfl) (w_M_takesItem (X := X) (d := d) hs _) (fun q3 => ?_)
  refine s_if_ne d_M_takesAll_13 (fun u4 => ?_) (fun u4 => ?_)
  · exact w_M_takesAll_L18 (X := X) (d := d) hs 200 _
  · refine g_iconst d_M_takesAll_16 ?_
    refine g_zreturn d_M_takesAll_17 rfl ?_ rfl
    rfl
def f_M_text (S : St) : Option (Int32 × St) := ((f_M_begin S).bind fun q1 => ((f_M_takesAll q1).bind fun q2 => let S3 := put q2.2 46 6 0; (if (bI q2.1) = 0 then ((f_M_layBack S3).bind fun q5 => some (((-1) - (q5 46 9)), q5)) else some ((S3 47 11), S3))))
set_option maxRecDepth 4000 in
theorem w_M_text {X : xC} {d : Nat} {sA : Nat → Nat} (hs : XTxt X sA)  (S : St) : SemG eI X k_M_text (d + 7) 0 [some (.ref (xB X + 46)), none] [] S (f_M_text   S) := by
  unfold f_M_text
  refine g_aload_n d_M_text_0 rfl ?_
  refine g_callV0V d_M_text_1 ml_M_124 vk_M_begin rfl ⟨_, rfl, rfl⟩ (Nat.le_of_ble_eq_true rfl) (w_M_begin (X := X) (d := d + 5) _) (fun q1 => ?_)
  refine g_aload_n d_M_text_4 rfl ?_
  refine g_callV0B d_M_text_5 ml_M_214 vk_M_takesAll rfl ⟨_, rfl, rfl⟩ (Nat.le_of_ble_eq_true rfl) (w_M_takesAll (X := X) (d := d) hs _) (fun q2 => ?_)
  refine g_istore_n d_M_text_8 (by decide) ?_
  refine g_aload_n d_M_text_9 rfl ?_
  refine g_iconst d_M_text_10 ?_
  refine g_putI d_M_text_11 fl_M_136 ⟨_, rfl, rfl⟩ rfl rfl rfl rfl ?_
  refine g_iload_n d_M_text_14 rfl ?_
  refine s_if_ne d_M_text_15 (fun u4 => ?_) (fun u4 => ?_)
  · refine g_aload_n d_M_text_29 rfl ?_
    refine g_getR d_M_text_30 fl_M_7 rfl rfl ?_
    refine g_bipush d_M_text_33 ?_
    refine g_ild d_M_text_35 rfl il_11_92.1 il_11_92.2 ?_
    exact g_ireturn d_M_text_36 rfl rfl rfl
  · refine g_aload_n d_M_text_18 rfl ?_
    refine g_callV0V d_M_text_19 ml_M_121 vk_M_layBack rfl ⟨_, rfl, rfl⟩ (Nat.le_of_ble_eq_true rfl) (w_M_layBack (X := X) (d := d + 5) _) (fun q5 => ?_)
    refine g_iconst d_M_text_22 ?_
    refine g_aload_n d_M_text_23 rfl ?_
    refine g_getI d_M_text_24 fl_M_146 rfl rfl ?_
    refine g_isub d_M_text_27 ?_
    exact g_ireturn d_M_text_28 rfl rfl rfl
