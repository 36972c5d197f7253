theorem Sem.mem {X : xC} {k : Mth} {d pc : Nat} {ls : List (Option Value)} {st : List Value} {M M2 M' : List va_E} {r : Option Value} {kc ks : Nat} (h : M = M2) (kk : Sem X k d pc ls st M2 r M' kc ks) : Sem X k d pc ls st M r M' kc ks := by
  subst h
  exact kk
theorem hxI {X : xC} : ∀ U, EnvOK X U → U.vm.findClass "[I" = some (xI X) := fun U h => (h.1.2 0 _ rfl).2
theorem hx0 {X : xC} : ∀ U, EnvOK X U → va_AO "SandLorry$Lorry" U := fun U h => h.2.2.1
theorem hx1 {X : xC} : ∀ U, EnvOK X U → va_AO "SandLorry$Sheet" U := fun U h => h.2.2.2.1
theorem dv_0 : ∀ j, j < 2 → defaultValue (clsT 0 j) = vp_V [.null, .null] j := by decide +kernel
theorem dv_1 : ∀ j, j < 7 → defaultValue (clsT 1 j) = vp_V [.null, .null, .null, .null, .null, .int 0, .int 0] j := by decide +kernel
theorem dv_2 : ∀ j, j < 5 → defaultValue (clsT 2 j) = vp_V [.null, .int 0, .int 0, .int 0, .int 0] j := by decide +kernel
theorem dv_3 : ∀ j, j < 3 → defaultValue (clsT 3 j) = vp_V [.null, .int 0, .int 0] j := by decide +kernel
theorem dv_4 : ∀ j, j < 6 → defaultValue (clsT 4 j) = vp_V [.null, .int 0, .int 0, .int 0, .int 0, .int 0] j := by decide +kernel
theorem dv_5 : ∀ j, j < 10 → defaultValue (clsT 5 j) = vp_V [.null, .null, .null, .null, .null, .null, .null, .null, .null, .int 0] j := by decide +kernel
theorem dv_6 : ∀ j, j < 16 → defaultValue (clsT 6 j) = vp_V [.null, .null, .null, .int 0, .null, .null, .int 0, .int 0, .int 0, .int 0, .int 0, .null, .null, .null, .null, .null] j := by decide +kernel
def fillF (n : Nat) (v : Int32) (f : Nat → Int32) : Nat → Int32 := fun j => if j < n then v else f j
theorem w_fill {X : xC} {d c0 n : Nat} {v : Int32} {M : List va_E} {f : Nat → Int32} (hn : n < 2147483648) (hM : M[c0]? = some (.inl (xI X, n, .inl f))) : Sem X k_JA_fill d 0 [some (.ref (xB X + c0)), some (.int v), none, none] [] M none (M.set c0 (.inl (xI X, n, .inl (fillF n v f)))) 0 0 := by
  have hlt : c0 < M.length := (List.getElem?_eq_some_iff.mp hM).1
  have loop : ∀ (m i : Nat), i + m = n → Sem X k_JA_fill d 5 [some (.ref (xB X + c0)), some (.int v), some (.int (nI i)), some (.int (nI n))] [] (M.set c0 (.inl (xI X, n, .inl (fillF i v f)))) none (M.set c0 (.inl (xI X, n, .inl (fillF n v f)))) 0 0 := by
    intro m
    induction m with
    | zero =>
      intro i hi
      have hi : i = n := by omega
      subst hi
      refine ev_iload_n d_JA_fill_5 rfl ?_
      refine ev_iload_n d_JA_fill_6 rfl ?_
      refine ev_icmp_ge d_JA_fill_7 (fun _ => ?_) (fun h => absurd (nI_le (Nat.le_refl _) hn) h)
      exact ev_return d_JA_fill_20 rfl
    | succ m ih =>
      intro i hi
      refine ev_iload_n d_JA_fill_5 rfl ?_
      refine ev_iload_n d_JA_fill_6 rfl ?_
      refine ev_icmp_ge d_JA_fill_7 (fun h => absurd h (nI_ge (by omega) hn)) (fun _ => ?_)
      refine ev_aload_n d_JA_fill_10 rfl ?_
      refine ev_iload_n d_JA_fill_11 rfl ?_
      refine ev_iload_n d_JA_fill_12 rfl ?_
      refine ev_iast d_JA_fill_13 (List.getElem?_set_self hlt) (vp_in_nI (by omega) hn) ?_
      rw [List.set_set, nI_clamp (by omega)]
      have e : upd (fillF i v f) i v = fillF (i + 1) v f := by
        funext j
        unfold upd fillF
        by_cases h1 : j = i
        · subst h1; simp
        · by_cases h2 : j < i
          · have h3 : j < i + 1 := by omega
            simp [h1, h2, h3]
          · have h3 : ¬ j < i + 1 := by omega
            simp [h1, h2, h3]
      rw [e]
      refine ev_iinc d_JA_fill_14 (by decide) rfl ?_
      refine ev_goto d_JA_fill_17 ?_
      have h4 := ih (i + 1) (by omega)
      rw [nI_succ] at h4
      exact h4
  refine ev_iconst d_JA_fill_0 ?_
  refine ev_istore_n d_JA_fill_1 (by decide) ?_
  refine ev_aload_n d_JA_fill_2 rfl ?_
  refine ev_alen d_JA_fill_3 hM (v := nI n) rfl ?_
  refine ev_istore_n d_JA_fill_4 (by decide) ?_
  have h := loop n 0 (by omega)
  have e0 : fillF 0 v f = f := by funext j; unfold fillF; simp
  rw [e0] at h
  have e1 : M.set c0 (.inl (xI X, n, .inl f)) = M := by
    apply List.ext_getElem?
    intro i
    by_cases hi : i = c0
    · subst hi; rw [List.getElem?_set_self hlt]; exact hM.symm
    · rw [List.getElem?_set_ne (Ne.symm hi)]
  rw [e1, nI_0] at h
  exact h
def hasI : Nat → Int32 := upd (upd (upd (upd (upd (upd (upd (upd (upd (upd (fun _ => 0) 0 20) 1 0) 2 20) 3 0) 4 2) 5 4) 6 900) 7 0) 8 0) 9 0
def Mi1 (X : xC) : List va_E := [.inr (5, [.null, .null, .null, .null, .null, .null, .null, .null, .null, .int 0])]
def Mi2 (X : xC) : List va_E := [.inr (5, [.null, .null, .null, .null, .null, .null, .null, .null, .null, .int 0]), .inr (1, [.null, .null, .null, .null, .null, .int 0, .int 0])]
def Mi3 (X : xC) : List va_E := [.inr (5, [.null, .null, .null, .null, .null, .null, .null, .null, .null, .int 0]), .inr (1, [.null, .null, .null, .null, .null, .int 0, .int 0])]
def Mi4 (X : xC) : List va_E := [.inr (5, [.null, .null, .null, .null, .null, .null, .null, .null, .null, .int 0]), .inr (1, [.null, .null, .null, .null, .null, .int 0, .int 0]), .inr (0, [.null, .null])]
def Mi5 (X : xC) : List va_E := [.inr (5, [.null, .null, .null, .null, .null, .null, .null, .null, .null, .int 0]), .inr (1, [.null, .null, .null, .null, .null, .int 0, .int 0]), .inr (0, [.null, .null]), .inl (xI X, 40, .inl (fun _ => 0))]
def Mi6 (X : xC) : List va_E := [.inr (5, [.null, .null, .null, .null, .null, .null, .null, .null, .null, .int 0]), .inr (1, [.null, .null, .null, .null, .null, .int 0, .int 0]), .inr (0, [.null, .null]), .inl (xI X, 40, .inl (fun _ => 0))]
def Mi7 (X : xC) : List va_E := [.inr (5, [.null, .null, .null, .null, .null, .null, .null, .null, .null, .int 0]), .inr (1, [.null, .null, .null, .null, .null, .int 0, .int 0]), .inr (0, [.ref (xB X + 3), .ref (xB X + 4)]), .inl (xI X, 40, .inl (fun _ => 0)), .inl (xI X, 10, .inl (hasI))]
set_option maxRecDepth 20000 in
set_option maxHeartbeats 4000000 in
theorem wi_L_7 {X : xC} {d : Nat} : Sem X k_L_init (d + 1) 0 [some (.ref (xB X + 2)), some (.ref (xB X + 3))] [] (Mi6 X) none (Mi7 X) 1 10 := by
  refine ev_aload_n d_L_init_0 rfl ?_
  refine ev_objInit d_L_init_1 ml_L_3 (Nat.le_of_ble_eq_true rfl) ?_
  refine ev_aload_n d_L_init_4 rfl ?_
  refine ev_bipush d_L_init_5 ?_
  refine ev_newa (kc := 0) (ks := 0) d_L_init_7 (by decide) (N := 10) (by decide) (by decide) (c0 := 4) rfl hxI ?_
  refine ev_dup d_L_init_9 rfl ?_
  refine ev_iconst d_L_init_10 ?_
  refine ev_bipush d_L_init_11 ?_
  refine ev_iast d_L_init_13 rfl (inb_in (by decide)) ?_
  refine ev_dup d_L_init_14 rfl ?_
  refine ev_iconst d_L_init_15 ?_
  refine ev_iconst d_L_init_16 ?_
  refine ev_iast d_L_init_17 rfl (inb_in (by decide)) ?_
  refine ev_dup d_L_init_18 rfl ?_
  refine ev_iconst d_L_init_19 ?_
  refine ev_bipush d_L_init_20 ?_
  refine ev_iast d_L_init_22 rfl (inb_in (by decide)) ?_
  refine ev_dup d_L_init_23 rfl ?_
  refine ev_iconst d_L_init_24 ?_
  refine ev_iconst d_L_init_25 ?_
  refine ev_iast d_L_init_26 rfl (inb_in (by decide)) ?_
  refine ev_dup d_L_init_27 rfl ?_
  refine ev_iconst d_L_init_28 ?_
  refine ev_iconst d_L_init_29 ?_
  refine ev_iast d_L_init_30 rfl (inb_in (by decide)) ?_
  refine ev_dup d_L_init_31 rfl ?_
  refine ev_iconst d_L_init_32 ?_
  refine ev_iconst d_L_init_33 ?_
  refine ev_iast d_L_init_34 rfl (inb_in (by decide)) ?_
  refine ev_dup d_L_init_35 rfl ?_
  refine ev_bipush d_L_init_36 ?_
  refine ev_sipush d_L_init_38 ?_
  refine ev_iast d_L_init_41 rfl (inb_in (by decide)) ?_
  refine ev_dup d_L_init_42 rfl ?_
  refine ev_bipush d_L_init_43 ?_
  refine ev_iconst d_L_init_45 ?_
  refine ev_iast d_L_init_46 rfl (inb_in (by decide)) ?_
  refine ev_dup d_L_init_47 rfl ?_
  refine ev_bipush d_L_init_48 ?_
  refine ev_iconst d_L_init_50 ?_
  refine ev_iast d_L_init_51 rfl (inb_in (by decide)) ?_
  refine ev_dup d_L_init_52 rfl ?_
  refine ev_bipush d_L_init_53 ?_
  refine ev_iconst d_L_init_55 ?_
  refine ev_iast d_L_init_56 rfl (inb_in (by decide)) ?_
  refine ev_putF d_L_init_57 fl_L_9 ⟨_, rfl, rfl⟩ rfl rfl rfl rfl rfl (Nat.le_of_ble_eq_true rfl) ?_
  refine ev_aload_n d_L_init_60 rfl ?_
  refine ev_aload_n d_L_init_61 rfl ?_
  refine ev_putF d_L_init_62 fl_L_15 ⟨_, rfl, rfl⟩ rfl rfl rfl rfl rfl (Nat.le_of_ble_eq_true rfl) ?_
  exact ev_return d_L_init_65 rfl
def Mi8 (X : xC) : List va_E := [.inr (5, [.null, .null, .null, .null, .null, .null, .null, .null, .null, .int 0]), .inr (1, [.ref (xB X + 2), .null, .null, .null, .null, .int 0, .int 0]), .inr (0, [.ref (xB X + 3), .ref (xB X + 4)]), .inl (xI X, 40, .inl (fun _ => 0)), .inl (xI X, 10, .inl (hasI))]
def Mi9 (X : xC) : List va_E := [.inr (5, [.null, .null, .null, .null, .null, .null, .null, .null, .null, .int 0]), .inr (1, [.ref (xB X + 2), .ref (xB X + 3), .null, .null, .null, .int 0, .int 0]), .inr (0, [.ref (xB X + 3), .ref (xB X + 4)]), .inl (xI X, 40, .inl (fun _ => 0)), .inl (xI X, 10, .inl (hasI))]
def Mi10 (X : xC) : List va_E := [.inr (5, [.null, .null, .null, .null, .null, .null, .null, .null, .null, .int 0]), .inr (1, [.ref (xB X + 2), .ref (xB X + 3), .null, .null, .null, .int 0, .int 0]), .inr (0, [.ref (xB X + 3), .ref (xB X + 4)]), .inl (xI X, 40, .inl (fun _ => 0)), .inl (xI X, 10, .inl (hasI)), .inl (xI X, 10, .inl (fun _ => 0))]
def Mi11 (X : xC) : List va_E := [.inr (5, [.null, .null, .null, .null, .null, .null, .null, .null, .null, .int 0]), .inr (1, [.ref (xB X + 2), .ref (xB X + 3), .ref (xB X + 5), .null, .null, .int 0, .int 0]), .inr (0, [.ref (xB X + 3), .ref (xB X + 4)]), .inl (xI X, 40, .inl (fun _ => 0)), .inl (xI X, 10, .inl (hasI)), .inl (xI X, 10, .inl (fun _ => 0))]
def Mi12 (X : xC) : List va_E := [.inr (5, [.null, .null, .null, .null, .null, .null, .null, .null, .null, .int 0]), .inr (1, [.ref (xB X + 2), .ref (xB X + 3), .ref (xB X + 5), .null, .null, .int 0, .int 0]), .inr (0, [.ref (xB X + 3), .ref (xB X + 4)]), .inl (xI X, 40, .inl (fun _ => 0)), .inl (xI X, 10, .inl (hasI)), .inl (xI X, 10, .inl (fun _ => 0)), .inl (xI X, 10, .inl (fun _ => 0))]
def Mi13 (X : xC) : List va_E := [.inr (5, [.null, .null, .null, .null, .null, .null, .null, .null, .null, .int 0]), .inr (1, [.ref (xB X + 2), .ref (xB X + 3), .ref (xB X + 5), .ref (xB X + 6), .null, .int 0, .int 0]), .inr (0, [.ref (xB X + 3), .ref (xB X + 4)]), .inl (xI X, 40, .inl (fun _ => 0)), .inl (xI X, 10, .inl (hasI)), .inl (xI X, 10, .inl (fun _ => 0)), .inl (xI X, 10, .inl (fun _ => 0))]
def Mi14 (X : xC) : List va_E := [.inr (5, [.null, .null, .null, .null, .null, .null, .null, .null, .null, .int 0]), .inr (1, [.ref (xB X + 2), .ref (xB X + 3), .ref (xB X + 5), .ref (xB X + 6), .null, .int 0, .int 0]), .inr (0, [.ref (xB X + 3), .ref (xB X + 4)]), .inl (xI X, 40, .inl (fun _ => 0)), .inl (xI X, 10, .inl (hasI)), .inl (xI X, 10, .inl (fun _ => 0)), .inl (xI X, 10, .inl (fun _ => 0)), .inl (xI X, 20, .inl (fun _ => 0))]
def Mi15 (X : xC) : List va_E := [.inr (5, [.null, .null, .null, .null, .null, .null, .null, .null, .null, .int 0]), .inr (1, [.ref (xB X + 2), .ref (xB X + 3), .ref (xB X + 5), .ref (xB X + 6), .ref (xB X + 7), .int 0, .int 0]), .inr (0, [.ref (xB X + 3), .ref (xB X + 4)]), .inl (xI X, 40, .inl (fun _ => 0)), .inl (xI X, 10, .inl (hasI)), .inl (xI X, 10, .inl (fun _ => 0)), .inl (xI X, 10, .inl (fun _ => 0)), .inl (xI X, 20, .inl (fun _ => 0))]
def Mi16 (X : xC) : List va_E := [.inr (5, [.null, .null, .null, .null, .null, .null, .null, .null, .null, .int 0]), .inr (1, [.ref (xB X + 2), .ref (xB X + 3), .ref (xB X + 5), .ref (xB X + 6), .ref (xB X + 7), .int 0, .int 1]), .inr (0, [.ref (xB X + 3), .ref (xB X + 4)]), .inl (xI X, 40, .inl (fun _ => 0)), .inl (xI X, 10, .inl (hasI)), .inl (xI X, 10, .inl (fun _ => 0)), .inl (xI X, 10, .inl (fun _ => 0)), .inl (xI X, 20, .inl (fun _ => 0))]
def Mi17 (X : xC) : List va_E := [.inr (5, [.null, .null, .null, .null, .null, .null, .null, .null, .null, .int 0]), .inr (1, [.ref (xB X + 2), .ref (xB X + 3), .ref (xB X + 5), .ref (xB X + 6), .ref (xB X + 7), .int 0, .int 1]), .inr (0, [.ref (xB X + 3), .ref (xB X + 4)]), .inl (xI X, 40, .inl (fillF 40 50 (fun _ => 0))), .inl (xI X, 10, .inl (hasI)), .inl (xI X, 10, .inl (fun _ => 0)), .inl (xI X, 10, .inl (fun _ => 0)), .inl (xI X, 20, .inl (fun _ => 0))]
def Mi18 (X : xC) : List va_E := [.inr (5, [.null, .null, .null, .null, .null, .null, .null, .null, .null, .int 0]), .inr (1, [.ref (xB X + 2), .ref (xB X + 3), .ref (xB X + 5), .ref (xB X + 6), .ref (xB X + 7), .int 0, .int 1]), .inr (0, [.ref (xB X + 3), .ref (xB X + 4)]), .inl (xI X, 40, .inl (fillF 40 50 (fun _ => 0))), .inl (xI X, 10, .inl (hasI)), .inl (xI X, 10, .inl (fillF 10 (-1) (fun _ => 0))), .inl (xI X, 10, .inl (fun _ => 0)), .inl (xI X, 20, .inl (fun _ => 0))]
def Mi19 (X : xC) : List va_E := [.inr (5, [.null, .null, .null, .null, .null, .null, .null, .null, .null, .int 0]), .inr (1, [.ref (xB X + 2), .ref (xB X + 3), .ref (xB X + 5), .ref (xB X + 6), .ref (xB X + 7), .int 0, .int 1]), .inr (0, [.ref (xB X + 3), .ref (xB X + 4)]), .inl (xI X, 40, .inl (fillF 40 50 (fun _ => 0))), .inl (xI X, 10, .inl (hasI)), .inl (xI X, 10, .inl (fillF 10 (-1) (fun _ => 0))), .inl (xI X, 10, .inl (fillF 10 (-1) (fun _ => 0))), .inl (xI X, 20, .inl (fun _ => 0))]
def Mi20 (X : xC) : List va_E := [.inr (5, [.null, .null, .null, .null, .null, .null, .null, .null, .null, .int 0]), .inr (1, [.ref (xB X + 2), .ref (xB X + 3), .ref (xB X + 5), .ref (xB X + 6), .ref (xB X + 7), .int 0, .int 1]), .inr (0, [.ref (xB X + 3), .ref (xB X + 4)]), .inl (xI X, 40, .inl (fillF 40 50 (fun _ => 0))), .inl (xI X, 10, .inl (hasI)), .inl (xI X, 10, .inl (fillF 10 (-1) (fun _ => 0))), .inl (xI X, 10, .inl (fillF 10 (-1) (fun _ => 0))), .inl (xI X, 20, .inl (fun _ => 0))]
set_option maxRecDepth 20000 in
set_option maxHeartbeats 4000000 in
theorem wi_C_20 {X : xC} {d : Nat} : Sem X k_C_init (d + 2) 0 [some (.ref (xB X + 1))] [] (Mi3 X) none (Mi20 X) 6 92 := by
  refine ev_aload_n d_C_init_0 rfl ?_
  refine ev_objInit d_C_init_1 ml_C_3 (Nat.le_of_ble_eq_true rfl) ?_
  refine ev_aload_n d_C_init_4 rfl ?_
  refine ev_new (kc := 5) (ks := 90) (ci := 0) (fs := [.null, .null]) d_C_init_5 rfl (TG_at 29 (by decide +kernel) (by decide +kernel)) (TG_at 30 (by decide +kernel) (by decide +kernel)) (TG_at 3 (by decide +kernel) (by decide +kernel)) dv_0 (c0 := 2) rfl ?_
  refine Sem.mem (M2 := Mi4 X) rfl ?_
  refine ev_dup d_C_init_8 rfl ?_
  refine ev_bipush d_C_init_9 ?_
  refine ev_newa (kc := 4) (ks := 50) d_C_init_11 (by decide) (N := 40) (by decide) (by decide) (c0 := 3) rfl hxI ?_
  refine Sem.mem (M2 := Mi5 X) rfl ?_
  refine ev_callI (As := [.ref (xB X + 3)]) (k1 := 1) (s1 := 10) (kc := 3) (ks := 40) d_C_init_13 ml_C_11 ik_L_init rfl rfl (cat_cons rfl (fun v hv => by cases hv)) (Nat.le_of_ble_eq_true rfl) (wi_L_7 (X := X) (d := d)) ?_
  refine ev_putF d_C_init_16 fl_C_14 ⟨_, rfl, rfl⟩ rfl rfl rfl rfl rfl (Nat.le_of_ble_eq_true rfl) ?_
  refine Sem.mem (M2 := Mi8 X) rfl ?_
  refine ev_aload_n d_C_init_19 rfl ?_
  refine ev_aload_n d_C_init_20 rfl ?_
  refine ev_get d_C_init_21 fl_C_14 rfl rfl ?_
  refine ev_get d_C_init_24 fl_C_20 rfl rfl ?_
  refine ev_putF d_C_init_27 fl_C_24 ⟨_, rfl, rfl⟩ rfl rfl rfl rfl rfl (Nat.le_of_ble_eq_true rfl) ?_
  refine Sem.mem (M2 := Mi9 X) rfl ?_
  refine ev_aload_n d_C_init_30 rfl ?_
  refine ev_bipush d_C_init_31 ?_
  refine ev_newa (kc := 2) (ks := 30) d_C_init_33 (by decide) (N := 10) (by decide) (by decide) (c0 := 5) rfl hxI ?_
  refine Sem.mem (M2 := Mi10 X) rfl ?_
  refine ev_putF d_C_init_35 fl_C_25 ⟨_, rfl, rfl⟩ rfl rfl rfl rfl rfl (Nat.le_of_ble_eq_true rfl) ?_
  refine Sem.mem (M2 := Mi11 X) rfl ?_
  refine ev_aload_n d_C_init_38 rfl ?_
  refine ev_bipush d_C_init_39 ?_
  refine ev_newa (kc := 1) (ks := 20) d_C_init_41 (by decide) (N := 10) (by decide) (by decide) (c0 := 6) rfl hxI ?_
  refine Sem.mem (M2 := Mi12 X) rfl ?_
  refine ev_putF d_C_init_43 fl_C_28 ⟨_, rfl, rfl⟩ rfl rfl rfl rfl rfl (Nat.le_of_ble_eq_true rfl) ?_
  refine Sem.mem (M2 := Mi13 X) rfl ?_
  refine ev_aload_n d_C_init_46 rfl ?_
  refine ev_bipush d_C_init_47 ?_
  refine ev_newa (kc := 0) (ks := 0) d_C_init_49 (by decide) (N := 20) (by decide) (by decide) (c0 := 7) rfl hxI ?_
  refine Sem.mem (M2 := Mi14 X) rfl ?_
  refine ev_putF d_C_init_51 fl_C_31 ⟨_, rfl, rfl⟩ rfl rfl rfl rfl rfl (Nat.le_of_ble_eq_true rfl) ?_
  refine Sem.mem (M2 := Mi15 X) rfl ?_
  refine ev_aload_n d_C_init_54 rfl ?_
  refine ev_iconst d_C_init_55 ?_
  refine ev_put d_C_init_56 fl_C_34 ⟨_, rfl, rfl⟩ rfl rfl rfl (Nat.le_of_ble_eq_true rfl) ?_
  refine Sem.mem (M2 := Mi16 X) rfl ?_
  refine ev_aload_n d_C_init_59 rfl ?_
  refine ev_get d_C_init_60 fl_C_24 rfl rfl ?_
  refine ev_bipush d_C_init_63 ?_
  refine ev_callS (As := [.ref (xB X + 3), .int 50]) (k1 := 0) (s1 := 0) (kc := 0) (ks := 0) d_C_init_65 ml_C_38 sk_JA_fill (cat_cons rfl (cat_cons rfl (fun v hv => by cases hv))) (Nat.le_of_ble_eq_true rfl) (w_fill (n := 40) (by decide) rfl) ?_
  refine Sem.mem (M2 := Mi17 X) rfl ?_
  refine ev_aload_n d_C_init_68 rfl ?_
  refine ev_get d_C_init_69 fl_C_25 rfl rfl ?_
  refine ev_iconst d_C_init_72 ?_
  refine ev_callS (As := [.ref (xB X + 5), .int (-1)]) (k1 := 0) (s1 := 0) (kc := 0) (ks := 0) d_C_init_73 ml_C_38 sk_JA_fill (cat_cons rfl (cat_cons rfl (fun v hv => by cases hv))) (Nat.le_of_ble_eq_true rfl) (w_fill (n := 10) (by decide) rfl) ?_
  refine Sem.mem (M2 := Mi18 X) rfl ?_
  refine ev_aload_n d_C_init_76 rfl ?_
  refine ev_get d_C_init_77 fl_C_28 rfl rfl ?_
  refine ev_iconst d_C_init_80 ?_
  refine ev_callS (As := [.ref (xB X + 6), .int (-1)]) (k1 := 0) (s1 := 0) (kc := 0) (ks := 0) d_C_init_81 ml_C_38 sk_JA_fill (cat_cons rfl (cat_cons rfl (fun v hv => by cases hv))) (Nat.le_of_ble_eq_true rfl) (w_fill (n := 10) (by decide) rfl) ?_
  refine Sem.mem (M2 := Mi19 X) rfl ?_
  exact ev_return d_C_init_84 rfl
def Mi21 (X : xC) : List va_E := [.inr (5, [.ref (xB X + 1), .null, .null, .null, .null, .null, .null, .null, .null, .int 0]), .inr (1, [.ref (xB X + 2), .ref (xB X + 3), .ref (xB X + 5), .ref (xB X + 6), .ref (xB X + 7), .int 0, .int 1]), .inr (0, [.ref (xB X + 3), .ref (xB X + 4)]), .inl (xI X, 40, .inl (fillF 40 50 (fun _ => 0))), .inl (xI X, 10, .inl (hasI)), .inl (xI X, 10, .inl (fillF 10 (-1) (fun _ => 0))), .inl (xI X, 10, .inl (fillF 10 (-1) (fun _ => 0))), .inl (xI X, 20, .inl (fun _ => 0))]
def Mi22 (X : xC) : List va_E := [.inr (5, [.ref (xB X + 1), .null, .null, .null, .null, .null, .null, .null, .null, .int 0]), .inr (1, [.ref (xB X + 2), .ref (xB X + 3), .ref (xB X + 5), .ref (xB X + 6), .ref (xB X + 7), .int 0, .int 1]), .inr (0, [.ref (xB X + 3), .ref (xB X + 4)]), .inl (xI X, 40, .inl (fillF 40 50 (fun _ => 0))), .inl (xI X, 10, .inl (hasI)), .inl (xI X, 10, .inl (fillF 10 (-1) (fun _ => 0))), .inl (xI X, 10, .inl (fillF 10 (-1) (fun _ => 0))), .inl (xI X, 20, .inl (fun _ => 0)), .inr (1, [.null, .null, .null, .null, .null, .int 0, .int 0])]
def Mi23 (X : xC) : List va_E := [.inr (5, [.ref (xB X + 1), .null, .null, .null, .null, .null, .null, .null, .null, .int 0]), .inr (1, [.ref (xB X + 2), .ref (xB X + 3), .ref (xB X + 5), .ref (xB X + 6), .ref (xB X + 7), .int 0, .int 1]), .inr (0, [.ref (xB X + 3), .ref (xB X + 4)]), .inl (xI X, 40, .inl (fillF 40 50 (fun _ => 0))), .inl (xI X, 10, .inl (hasI)), .inl (xI X, 10, .inl (fillF 10 (-1) (fun _ => 0))), .inl (xI X, 10, .inl (fillF 10 (-1) (fun _ => 0))), .inl (xI X, 20, .inl (fun _ => 0)), .inr (1, [.null, .null, .null, .null, .null, .int 0, .int 0])]
def Mi24 (X : xC) : List va_E := [.inr (5, [.ref (xB X + 1), .null, .null, .null, .null, .null, .null, .null, .null, .int 0]), .inr (1, [.ref (xB X + 2), .ref (xB X + 3), .ref (xB X + 5), .ref (xB X + 6), .ref (xB X + 7), .int 0, .int 1]), .inr (0, [.ref (xB X + 3), .ref (xB X + 4)]), .inl (xI X, 40, .inl (fillF 40 50 (fun _ => 0))), .inl (xI X, 10, .inl (hasI)), .inl (xI X, 10, .inl (fillF 10 (-1) (fun _ => 0))), .inl (xI X, 10, .inl (fillF 10 (-1) (fun _ => 0))), .inl (xI X, 20, .inl (fun _ => 0)), .inr (1, [.null, .null, .null, .null, .null, .int 0, .int 0]), .inr (0, [.null, .null])]
def Mi25 (X : xC) : List va_E := [.inr (5, [.ref (xB X + 1), .null, .null, .null, .null, .null, .null, .null, .null, .int 0]), .inr (1, [.ref (xB X + 2), .ref (xB X + 3), .ref (xB X + 5), .ref (xB X + 6), .ref (xB X + 7), .int 0, .int 1]), .inr (0, [.ref (xB X + 3), .ref (xB X + 4)]), .inl (xI X, 40, .inl (fillF 40 50 (fun _ => 0))), .inl (xI X, 10, .inl (hasI)), .inl (xI X, 10, .inl (fillF 10 (-1) (fun _ => 0))), .inl (xI X, 10, .inl (fillF 10 (-1) (fun _ => 0))), .inl (xI X, 20, .inl (fun _ => 0)), .inr (1, [.null, .null, .null, .null, .null, .int 0, .int 0]), .inr (0, [.null, .null]), .inl (xI X, 40, .inl (fun _ => 0))]
def Mi26 (X : xC) : List va_E := [.inr (5, [.ref (xB X + 1), .null, .null, .null, .null, .null, .null, .null, .null, .int 0]), .inr (1, [.ref (xB X + 2), .ref (xB X + 3), .ref (xB X + 5), .ref (xB X + 6), .ref (xB X + 7), .int 0, .int 1]), .inr (0, [.ref (xB X + 3), .ref (xB X + 4)]), .inl (xI X, 40, .inl (fillF 40 50 (fun _ => 0))), .inl (xI X, 10, .inl (hasI)), .inl (xI X, 10, .inl (fillF 10 (-1) (fun _ => 0))), .inl (xI X, 10, .inl (fillF 10 (-1) (fun _ => 0))), .inl (xI X, 20, .inl (fun _ => 0)), .inr (1, [.null, .null, .null, .null, .null, .int 0, .int 0]), .inr (0, [.null, .null]), .inl (xI X, 40, .inl (fun _ => 0))]
def Mi27 (X : xC) : List va_E := [.inr (5, [.ref (xB X + 1), .null, .null, .null, .null, .null, .null, .null, .null, .int 0]), .inr (1, [.ref (xB X + 2), .ref (xB X + 3), .ref (xB X + 5), .ref (xB X + 6), .ref (xB X + 7), .int 0, .int 1]), .inr (0, [.ref (xB X + 3), .ref (xB X + 4)]), .inl (xI X, 40, .inl (fillF 40 50 (fun _ => 0))), .inl (xI X, 10, .inl (hasI)), .inl (xI X, 10, .inl (fillF 10 (-1) (fun _ => 0))), .inl (xI X, 10, .inl (fillF 10 (-1) (fun _ => 0))), .inl (xI X, 20, .inl (fun _ => 0)), .inr (1, [.null, .null, .null, .null, .null, .int 0, .int 0]), .inr (0, [.ref (xB X + 10), .ref (xB X + 11)]), .inl (xI X, 40, .inl (fun _ => 0)), .inl (xI X, 10, .inl (hasI))]
set_option maxRecDepth 20000 in
set_option maxHeartbeats 4000000 in
theorem wi_L_27 {X : xC} {d : Nat} : Sem X k_L_init (d + 1) 0 [some (.ref (xB X + 9)), some (.ref (xB X + 10))] [] (Mi26 X) none (Mi27 X) 1 10 := by
  refine ev_aload_n d_L_init_0 rfl ?_
  refine ev_objInit d_L_init_1 ml_L_3 (Nat.le_of_ble_eq_true rfl) ?_
  refine ev_aload_n d_L_init_4 rfl ?_
  refine ev_bipush d_L_init_5 ?_
  refine ev_newa (kc := 0) (ks := 0) d_L_init_7 (by decide) (N := 10) (by decide) (by decide) (c0 := 11) rfl hxI ?_
  refine ev_dup d_L_init_9 rfl ?_
  refine ev_iconst d_L_init_10 ?_
  refine ev_bipush d_L_init_11 ?_
  refine ev_iast d_L_init_13 rfl (inb_in (by decide)) ?_
  refine ev_dup d_L_init_14 rfl ?_
  refine ev_iconst d_L_init_15 ?_
  refine ev_iconst d_L_init_16 ?_
  refine ev_iast d_L_init_17 rfl (inb_in (by decide)) ?_
  refine ev_dup d_L_init_18 rfl ?_
  refine ev_iconst d_L_init_19 ?_
  refine ev_bipush d_L_init_20 ?_
  refine ev_iast d_L_init_22 rfl (inb_in (by decide)) ?_
  refine ev_dup d_L_init_23 rfl ?_
  refine ev_iconst d_L_init_24 ?_
  refine ev_iconst d_L_init_25 ?_
  refine ev_iast d_L_init_26 rfl (inb_in (by decide)) ?_
  refine ev_dup d_L_init_27 rfl ?_
  refine ev_iconst d_L_init_28 ?_
  refine ev_iconst d_L_init_29 ?_
  refine ev_iast d_L_init_30 rfl (inb_in (by decide)) ?_
  refine ev_dup d_L_init_31 rfl ?_
  refine ev_iconst d_L_init_32 ?_
  refine ev_iconst d_L_init_33 ?_
  refine ev_iast d_L_init_34 rfl (inb_in (by decide)) ?_
  refine ev_dup d_L_init_35 rfl ?_
  refine ev_bipush d_L_init_36 ?_
  refine ev_sipush d_L_init_38 ?_
  refine ev_iast d_L_init_41 rfl (inb_in (by decide)) ?_
  refine ev_dup d_L_init_42 rfl ?_
  refine ev_bipush d_L_init_43 ?_
  refine ev_iconst d_L_init_45 ?_
  refine ev_iast d_L_init_46 rfl (inb_in (by decide)) ?_
  refine ev_dup d_L_init_47 rfl ?_
  refine ev_bipush d_L_init_48 ?_
  refine ev_iconst d_L_init_50 ?_
  refine ev_iast d_L_init_51 rfl (inb_in (by decide)) ?_
  refine ev_dup d_L_init_52 rfl ?_
  refine ev_bipush d_L_init_53 ?_
  refine ev_iconst d_L_init_55 ?_
  refine ev_iast d_L_init_56 rfl (inb_in (by decide)) ?_
  refine ev_putF d_L_init_57 fl_L_9 ⟨_, rfl, rfl⟩ rfl rfl rfl rfl rfl (Nat.le_of_ble_eq_true rfl) ?_
  refine ev_aload_n d_L_init_60 rfl ?_
  refine ev_aload_n d_L_init_61 rfl ?_
  refine ev_putF d_L_init_62 fl_L_15 ⟨_, rfl, rfl⟩ rfl rfl rfl rfl rfl (Nat.le_of_ble_eq_true rfl) ?_
  exact ev_return d_L_init_65 rfl
def Mi28 (X : xC) : List va_E := [.inr (5, [.ref (xB X + 1), .null, .null, .null, .null, .null, .null, .null, .null, .int 0]), .inr (1, [.ref (xB X + 2), .ref (xB X + 3), .ref (xB X + 5), .ref (xB X + 6), .ref (xB X + 7), .int 0, .int 1]), .inr (0, [.ref (xB X + 3), .ref (xB X + 4)]), .inl (xI X, 40, .inl (fillF 40 50 (fun _ => 0))), .inl (xI X, 10, .inl (hasI)), .inl (xI X, 10, .inl (fillF 10 (-1) (fun _ => 0))), .inl (xI X, 10, .inl (fillF 10 (-1) (fun _ => 0))), .inl (xI X, 20, .inl (fun _ => 0)), .inr (1, [.ref (xB X + 9), .null, .null, .null, .null, .int 0, .int 0]), .inr (0, [.ref (xB X + 10), .ref (xB X + 11)]), .inl (xI X, 40, .inl (fun _ => 0)), .inl (xI X, 10, .inl (hasI))]
def Mi29 (X : xC) : List va_E := [.inr (5, [.ref (xB X + 1), .null, .null, .null, .null, .null, .null, .null, .null, .int 0]), .inr (1, [.ref (xB X + 2), .ref (xB X + 3), .ref (xB X + 5), .ref (xB X + 6), .ref (xB X + 7), .int 0, .int 1]), .inr (0, [.ref (xB X + 3), .ref (xB X + 4)]), .inl (xI X, 40, .inl (fillF 40 50 (fun _ => 0))), .inl (xI X, 10, .inl (hasI)), .inl (xI X, 10, .inl (fillF 10 (-1) (fun _ => 0))), .inl (xI X, 10, .inl (fillF 10 (-1) (fun _ => 0))), .inl (xI X, 20, .inl (fun _ => 0)), .inr (1, [.ref (xB X + 9), .ref (xB X + 10), .null, .null, .null, .int 0, .int 0]), .inr (0, [.ref (xB X + 10), .ref (xB X + 11)]), .inl (xI X, 40, .inl (fun _ => 0)), .inl (xI X, 10, .inl (hasI))]
def Mi30 (X : xC) : List va_E := [.inr (5, [.ref (xB X + 1), .null, .null, .null, .null, .null, .null, .null, .null, .int 0]), .inr (1, [.ref (xB X + 2), .ref (xB X + 3), .ref (xB X + 5), .ref (xB X + 6), .ref (xB X + 7), .int 0, .int 1]), .inr (0, [.ref (xB X + 3), .ref (xB X + 4)]), .inl (xI X, 40, .inl (fillF 40 50 (fun _ => 0))), .inl (xI X, 10, .inl (hasI)), .inl (xI X, 10, .inl (fillF 10 (-1) (fun _ => 0))), .inl (xI X, 10, .inl (fillF 10 (-1) (fun _ => 0))), .inl (xI X, 20, .inl (fun _ => 0)), .inr (1, [.ref (xB X + 9), .ref (xB X + 10), .null, .null, .null, .int 0, .int 0]), .inr (0, [.ref (xB X + 10), .ref (xB X + 11)]), .inl (xI X, 40, .inl (fun _ => 0)), .inl (xI X, 10, .inl (hasI)), .inl (xI X, 10, .inl (fun _ => 0))]
def Mi31 (X : xC) : List va_E := [.inr (5, [.ref (xB X + 1), .null, .null, .null, .null, .null, .null, .null, .null, .int 0]), .inr (1, [.ref (xB X + 2), .ref (xB X + 3), .ref (xB X + 5), .ref (xB X + 6), .ref (xB X + 7), .int 0, .int 1]), .inr (0, [.ref (xB X + 3), .ref (xB X + 4)]), .inl (xI X, 40, .inl (fillF 40 50 (fun _ => 0))), .inl (xI X, 10, .inl (hasI)), .inl (xI X, 10, .inl (fillF 10 (-1) (fun _ => 0))), .inl (xI X, 10, .inl (fillF 10 (-1) (fun _ => 0))), .inl (xI X, 20, .inl (fun _ => 0)), .inr (1, [.ref (xB X + 9), .ref (xB X + 10), .ref (xB X + 12), .null, .null, .int 0, .int 0]), .inr (0, [.ref (xB X + 10), .ref (xB X + 11)]), .inl (xI X, 40, .inl (fun _ => 0)), .inl (xI X, 10, .inl (hasI)), .inl (xI X, 10, .inl (fun _ => 0))]
def Mi32 (X : xC) : List va_E := [.inr (5, [.ref (xB X + 1), .null, .null, .null, .null, .null, .null, .null, .null, .int 0]), .inr (1, [.ref (xB X + 2), .ref (xB X + 3), .ref (xB X + 5), .ref (xB X + 6), .ref (xB X + 7), .int 0, .int 1]), .inr (0, [.ref (xB X + 3), .ref (xB X + 4)]), .inl (xI X, 40, .inl (fillF 40 50 (fun _ => 0))), .inl (xI X, 10, .inl (hasI)), .inl (xI X, 10, .inl (fillF 10 (-1) (fun _ => 0))), .inl (xI X, 10, .inl (fillF 10 (-1) (fun _ => 0))), .inl (xI X, 20, .inl (fun _ => 0)), .inr (1, [.ref (xB X + 9), .ref (xB X + 10), .ref (xB X + 12), .null, .null, .int 0, .int 0]), .inr (0, [.ref (xB X + 10), .ref (xB X + 11)]), .inl (xI X, 40, .inl (fun _ => 0)), .inl (xI X, 10, .inl (hasI)), .inl (xI X, 10, .inl (fun _ => 0)), .inl (xI X, 10, .inl (fun _ => 0))]
def Mi33 (X : xC) : List va_E := [.inr (5, [.ref (xB X + 1), .null, .null, .null, .null, .null, .null, .null, .null, .int 0]), .inr (1, [.ref (xB X + 2), .ref (xB X + 3), .ref (xB X + 5), .ref (xB X + 6), .ref (xB X + 7), .int 0, .int 1]), .inr (0, [.ref (xB X + 3), .ref (xB X + 4)]), .inl (xI X, 40, .inl (fillF 40 50 (fun _ => 0))), .inl (xI X, 10, .inl (hasI)), .inl (xI X, 10, .inl (fillF 10 (-1) (fun _ => 0))), .inl (xI X, 10, .inl (fillF 10 (-1) (fun _ => 0))), .inl (xI X, 20, .inl (fun _ => 0)), .inr (1, [.ref (xB X + 9), .ref (xB X + 10), .ref (xB X + 12), .ref (xB X + 13), .null, .int 0, .int 0]), .inr (0, [.ref (xB X + 10), .ref (xB X + 11)]), .inl (xI X, 40, .inl (fun _ => 0)), .inl (xI X, 10, .inl (hasI)), .inl (xI X, 10, .inl (fun _ => 0)), .inl (xI X, 10, .inl (fun _ => 0))]
def Mi34 (X : xC) : List va_E := [.inr (5, [.ref (xB X + 1), .null, .null, .null, .null, .null, .null, .null, .null, .int 0]), .inr (1, [.ref (xB X + 2), .ref (xB X + 3), .ref (xB X + 5), .ref (xB X + 6), .ref (xB X + 7), .int 0, .int 1]), .inr (0, [.ref (xB X + 3), .ref (xB X + 4)]), .inl (xI X, 40, .inl (fillF 40 50 (fun _ => 0))), .inl (xI X, 10, .inl (hasI)), .inl (xI X, 10, .inl (fillF 10 (-1) (fun _ => 0))), .inl (xI X, 10, .inl (fillF 10 (-1) (fun _ => 0))), .inl (xI X, 20, .inl (fun _ => 0)), .inr (1, [.ref (xB X + 9), .ref (xB X + 10), .ref (xB X + 12), .ref (xB X + 13), .null, .int 0, .int 0]), .inr (0, [.ref (xB X + 10), .ref (xB X + 11)]), .inl (xI X, 40, .inl (fun _ => 0)), .inl (xI X, 10, .inl (hasI)), .inl (xI X, 10, .inl (fun _ => 0)), .inl (xI X, 10, .inl (fun _ => 0)), .inl (xI X, 20, .inl (fun _ => 0))]
def Mi35 (X : xC) : List va_E := [.inr (5, [.ref (xB X + 1), .null, .null, .null, .null, .null, .null, .null, .null, .int 0]), .inr (1, [.ref (xB X + 2), .ref (xB X + 3), .ref (xB X + 5), .ref (xB X + 6), .ref (xB X + 7), .int 0, .int 1]), .inr (0, [.ref (xB X + 3), .ref (xB X + 4)]), .inl (xI X, 40, .inl (fillF 40 50 (fun _ => 0))), .inl (xI X, 10, .inl (hasI)), .inl (xI X, 10, .inl (fillF 10 (-1) (fun _ => 0))), .inl (xI X, 10, .inl (fillF 10 (-1) (fun _ => 0))), .inl (xI X, 20, .inl (fun _ => 0)), .inr (1, [.ref (xB X + 9), .ref (xB X + 10), .ref (xB X + 12), .ref (xB X + 13), .ref (xB X + 14), .int 0, .int 0]), .inr (0, [.ref (xB X + 10), .ref (xB X + 11)]), .inl (xI X, 40, .inl (fun _ => 0)), .inl (xI X, 10, .inl (hasI)), .inl (xI X, 10, .inl (fun _ => 0)), .inl (xI X, 10, .inl (fun _ => 0)), .inl (xI X, 20, .inl (fun _ => 0))]
def Mi36 (X : xC) : List va_E := [.inr (5, [.ref (xB X + 1), .null, .null, .null, .null, .null, .null, .null, .null, .int 0]), .inr (1, [.ref (xB X + 2), .ref (xB X + 3), .ref (xB X + 5), .ref (xB X + 6), .ref (xB X + 7), .int 0, .int 1]), .inr (0, [.ref (xB X + 3), .ref (xB X + 4)]), .inl (xI X, 40, .inl (fillF 40 50 (fun _ => 0))), .inl (xI X, 10, .inl (hasI)), .inl (xI X, 10, .inl (fillF 10 (-1) (fun _ => 0))), .inl (xI X, 10, .inl (fillF 10 (-1) (fun _ => 0))), .inl (xI X, 20, .inl (fun _ => 0)), .inr (1, [.ref (xB X + 9), .ref (xB X + 10), .ref (xB X + 12), .ref (xB X + 13), .ref (xB X + 14), .int 0, .int 1]), .inr (0, [.ref (xB X + 10), .ref (xB X + 11)]), .inl (xI X, 40, .inl (fun _ => 0)), .inl (xI X, 10, .inl (hasI)), .inl (xI X, 10, .inl (fun _ => 0)), .inl (xI X, 10, .inl (fun _ => 0)), .inl (xI X, 20, .inl (fun _ => 0))]
def Mi37 (X : xC) : List va_E := [.inr (5, [.ref (xB X + 1), .null, .null, .null, .null, .null, .null, .null, .null, .int 0]), .inr (1, [.ref (xB X + 2), .ref (xB X + 3), .ref (xB X + 5), .ref (xB X + 6), .ref (xB X + 7), .int 0, .int 1]), .inr (0, [.ref (xB X + 3), .ref (xB X + 4)]), .inl (xI X, 40, .inl (fillF 40 50 (fun _ => 0))), .inl (xI X, 10, .inl (hasI)), .inl (xI X, 10, .inl (fillF 10 (-1) (fun _ => 0))), .inl (xI X, 10, .inl (fillF 10 (-1) (fun _ => 0))), .inl (xI X, 20, .inl (fun _ => 0)), .inr (1, [.ref (xB X + 9), .ref (xB X + 10), .ref (xB X + 12), .ref (xB X + 13), .ref (xB X + 14), .int 0, .int 1]), .inr (0, [.ref (xB X + 10), .ref (xB X + 11)]), .inl (xI X, 40, .inl (fillF 40 50 (fun _ => 0))), .inl (xI X, 10, .inl (hasI)), .inl (xI X, 10, .inl (fun _ => 0)), .inl (xI X, 10, .inl (fun _ => 0)), .inl (xI X, 20, .inl (fun _ => 0))]
def Mi38 (X : xC) : List va_E := [.inr (5, [.ref (xB X + 1), .null, .null, .null, .null, .null, .null, .null, .null, .int 0]), .inr (1, [.ref (xB X + 2), .ref (xB X + 3), .ref (xB X + 5), .ref (xB X + 6), .ref (xB X + 7), .int 0, .int 1]), .inr (0, [.ref (xB X + 3), .ref (xB X + 4)]), .inl (xI X, 40, .inl (fillF 40 50 (fun _ => 0))), .inl (xI X, 10, .inl (hasI)), .inl (xI X, 10, .inl (fillF 10 (-1) (fun _ => 0))), .inl (xI X, 10, .inl (fillF 10 (-1) (fun _ => 0))), .inl (xI X, 20, .inl (fun _ => 0)), .inr (1, [.ref (xB X + 9), .ref (xB X + 10), .ref (xB X + 12), .ref (xB X + 13), .ref (xB X + 14), .int 0, .int 1]), .inr (0, [.ref (xB X + 10), .ref (xB X + 11)]), .inl (xI X, 40, .inl (fillF 40 50 (fun _ => 0))), .inl (xI X, 10, .inl (hasI)), .inl (xI X, 10, .inl (fillF 10 (-1) (fun _ => 0))), .inl (xI X, 10, .inl (fun _ => 0)), .inl (xI X, 20, .inl (fun _ => 0))]
def Mi39 (X : xC) : List va_E := [.inr (5, [.ref (xB X + 1), .null, .null, .null, .null, .null, .null, .null, .null, .int 0]), .inr (1, [.ref (xB X + 2), .ref (xB X + 3), .ref (xB X + 5), .ref (xB X + 6), .ref (xB X + 7), .int 0, .int 1]), .inr (0, [.ref (xB X + 3), .ref (xB X + 4)]), .inl (xI X, 40, .inl (fillF 40 50 (fun _ => 0))), .inl (xI X, 10, .inl (hasI)), .inl (xI X, 10, .inl (fillF 10 (-1) (fun _ => 0))), .inl (xI X, 10, .inl (fillF 10 (-1) (fun _ => 0))), .inl (xI X, 20, .inl (fun _ => 0)), .inr (1, [.ref (xB X + 9), .ref (xB X + 10), .ref (xB X + 12), .ref (xB X + 13), .ref (xB X + 14), .int 0, .int 1]), .inr (0, [.ref (xB X + 10), .ref (xB X + 11)]), .inl (xI X, 40, .inl (fillF 40 50 (fun _ => 0))), .inl (xI X, 10, .inl (hasI)), .inl (xI X, 10, .inl (fillF 10 (-1) (fun _ => 0))), .inl (xI X, 10, .inl (fillF 10 (-1) (fun _ => 0))), .inl (xI X, 20, .inl (fun _ => 0))]
def Mi40 (X : xC) : List va_E := [.inr (5, [.ref (xB X + 1), .null, .null, .null, .null, .null, .null, .null, .null, .int 0]), .inr (1, [.ref (xB X + 2), .ref (xB X + 3), .ref (xB X + 5), .ref (xB X + 6), .ref (xB X + 7), .int 0, .int 1]), .inr (0, [.ref (xB X + 3), .ref (xB X + 4)]), .inl (xI X, 40, .inl (fillF 40 50 (fun _ => 0))), .inl (xI X, 10, .inl (hasI)), .inl (xI X, 10, .inl (fillF 10 (-1) (fun _ => 0))), .inl (xI X, 10, .inl (fillF 10 (-1) (fun _ => 0))), .inl (xI X, 20, .inl (fun _ => 0)), .inr (1, [.ref (xB X + 9), .ref (xB X + 10), .ref (xB X + 12), .ref (xB X + 13), .ref (xB X + 14), .int 0, .int 1]), .inr (0, [.ref (xB X + 10), .ref (xB X + 11)]), .inl (xI X, 40, .inl (fillF 40 50 (fun _ => 0))), .inl (xI X, 10, .inl (hasI)), .inl (xI X, 10, .inl (fillF 10 (-1) (fun _ => 0))), .inl (xI X, 10, .inl (fillF 10 (-1) (fun _ => 0))), .inl (xI X, 20, .inl (fun _ => 0))]
set_option maxRecDepth 20000 in
set_option maxHeartbeats 4000000 in
theorem wi_C_40 {X : xC} {d : Nat} : Sem X k_C_init (d + 2) 0 [some (.ref (xB X + 8))] [] (Mi23 X) none (Mi40 X) 6 92 := by
  refine ev_aload_n d_C_init_0 rfl ?_
  refine ev_objInit d_C_init_1 ml_C_3 (Nat.le_of_ble_eq_true rfl) ?_
  refine ev_aload_n d_C_init_4 rfl ?_
  refine ev_new (kc := 5) (ks := 90) (ci := 0) (fs := [.null, .null]) d_C_init_5 rfl (TG_at 29 (by decide +kernel) (by decide +kernel)) (TG_at 30 (by decide +kernel) (by decide +kernel)) (TG_at 3 (by decide +kernel) (by decide +kernel)) dv_0 (c0 := 9) rfl ?_
  refine Sem.mem (M2 := Mi24 X) rfl ?_
  refine ev_dup d_C_init_8 rfl ?_
  refine ev_bipush d_C_init_9 ?_
  refine ev_newa (kc := 4) (ks := 50) d_C_init_11 (by decide) (N := 40) (by decide) (by decide) (c0 := 10) rfl hxI ?_
  refine Sem.mem (M2 := Mi25 X) rfl ?_
  refine ev_callI (As := [.ref (xB X + 10)]) (k1 := 1) (s1 := 10) (kc := 3) (ks := 40) d_C_init_13 ml_C_11 ik_L_init rfl rfl (cat_cons rfl (fun v hv => by cases hv)) (Nat.le_of_ble_eq_true rfl) (wi_L_27 (X := X) (d := d)) ?_
  refine ev_putF d_C_init_16 fl_C_14 ⟨_, rfl, rfl⟩ rfl rfl rfl rfl rfl (Nat.le_of_ble_eq_true rfl) ?_
  refine Sem.mem (M2 := Mi28 X) rfl ?_
  refine ev_aload_n d_C_init_19 rfl ?_
  refine ev_aload_n d_C_init_20 rfl ?_
  refine ev_get d_C_init_21 fl_C_14 rfl rfl ?_
  refine ev_get d_C_init_24 fl_C_20 rfl rfl ?_
  refine ev_putF d_C_init_27 fl_C_24 ⟨_, rfl, rfl⟩ rfl rfl rfl rfl rfl (Nat.le_of_ble_eq_true rfl) ?_
  refine Sem.mem (M2 := Mi29 X) rfl ?_
  refine ev_aload_n d_C_init_30 rfl ?_
  refine ev_bipush d_C_init_31 ?_
  refine ev_newa (kc := 2) (ks := 30) d_C_init_33 (by decide) (N := 10) (by decide) (by decide) (c0 := 12) rfl hxI ?_
  refine Sem.mem (M2 := Mi30 X) rfl ?_
  refine ev_putF d_C_init_35 fl_C_25 ⟨_, rfl, rfl⟩ rfl rfl rfl rfl rfl (Nat.le_of_ble_eq_true rfl) ?_
  refine Sem.mem (M2 := Mi31 X) rfl ?_
  refine ev_aload_n d_C_init_38 rfl ?_
  refine ev_bipush d_C_init_39 ?_
  refine ev_newa (kc := 1) (ks := 20) d_C_init_41 (by decide) (N := 10) (by decide) (by decide) (c0 := 13) rfl hxI ?_
  refine Sem.mem (M2 := Mi32 X) rfl ?_
  refine ev_putF d_C_init_43 fl_C_28 ⟨_, rfl, rfl⟩ rfl rfl rfl rfl rfl (Nat.le_of_ble_eq_true rfl) ?_
  refine Sem.mem (M2 := Mi33 X) rfl ?_
  refine ev_aload_n d_C_init_46 rfl ?_
  refine ev_bipush d_C_init_47 ?_
  refine ev_newa (kc := 0) (ks := 0) d_C_init_49 (by decide) (N := 20) (by decide) (by decide) (c0 := 14) rfl hxI ?_
  refine Sem.mem (M2 := Mi34 X) rfl ?_
  refine ev_putF d_C_init_51 fl_C_31 ⟨_, rfl, rfl⟩ rfl rfl rfl rfl rfl (Nat.le_of_ble_eq_true rfl) ?_
  refine Sem.mem (M2 := Mi35 X) rfl ?_
  refine ev_aload_n d_C_init_54 rfl ?_
  refine ev_iconst d_C_init_55 ?_
  refine ev_put d_C_init_56 fl_C_34 ⟨_, rfl, rfl⟩ rfl rfl rfl (Nat.le_of_ble_eq_true rfl) ?_
  refine Sem.mem (M2 := Mi36 X) rfl ?_
  refine ev_aload_n d_C_init_59 rfl ?_
  refine ev_get d_C_init_60 fl_C_24 rfl rfl ?_
  refine ev_bipush d_C_init_63 ?_
  refine ev_callS (As := [.ref (xB X + 10), .int 50]) (k1 := 0) (s1 := 0) (kc := 0) (ks := 0) d_C_init_65 ml_C_38 sk_JA_fill (cat_cons rfl (cat_cons rfl (fun v hv => by cases hv))) (Nat.le_of_ble_eq_true rfl) (w_fill (n := 40) (by decide) rfl) ?_
  refine Sem.mem (M2 := Mi37 X) rfl ?_
  refine ev_aload_n d_C_init_68 rfl ?_
  refine ev_get d_C_init_69 fl_C_25 rfl rfl ?_
  refine ev_iconst d_C_init_72 ?_
  refine ev_callS (As := [.ref (xB X + 12), .int (-1)]) (k1 := 0) (s1 := 0) (kc := 0) (ks := 0) d_C_init_73 ml_C_38 sk_JA_fill (cat_cons rfl (cat_cons rfl (fun v hv => by cases hv))) (Nat.le_of_ble_eq_true rfl) (w_fill (n := 10) (by decide) rfl) ?_
  refine Sem.mem (M2 := Mi38 X) rfl ?_
  refine ev_aload_n d_C_init_76 rfl ?_
  refine ev_get d_C_init_77 fl_C_28 rfl rfl ?_
  refine ev_iconst d_C_init_80 ?_
  refine ev_callS (As := [.ref (xB X + 13), .int (-1)]) (k1 := 0) (s1 := 0) (kc := 0) (ks := 0) d_C_init_81 ml_C_38 sk_JA_fill (cat_cons rfl (cat_cons rfl (fun v hv => by cases hv))) (Nat.le_of_ble_eq_true rfl) (w_fill (n := 10) (by decide) rfl) ?_
  refine Sem.mem (M2 := Mi39 X) rfl ?_
  exact ev_return d_C_init_84 rfl
def Mi41 (X : xC) : List va_E := [.inr (5, [.ref (xB X + 1), .ref (xB X + 8), .null, .null, .null, .null, .null, .null, .null, .int 0]), .inr (1, [.ref (xB X + 2), .ref (xB X + 3), .ref (xB X + 5), .ref (xB X + 6), .ref (xB X + 7), .int 0, .int 1]), .inr (0, [.ref (xB X + 3), .ref (xB X + 4)]), .inl (xI X, 40, .inl (fillF 40 50 (fun _ => 0))), .inl (xI X, 10, .inl (hasI)), .inl (xI X, 10, .inl (fillF 10 (-1) (fun _ => 0))), .inl (xI X, 10, .inl (fillF 10 (-1) (fun _ => 0))), .inl (xI X, 20, .inl (fun _ => 0)), .inr (1, [.ref (xB X + 9), .ref (xB X + 10), .ref (xB X + 12), .ref (xB X + 13), .ref (xB X + 14), .int 0, .int 1]), .inr (0, [.ref (xB X + 10), .ref (xB X + 11)]), .inl (xI X, 40, .inl (fillF 40 50 (fun _ => 0))), .inl (xI X, 10, .inl (hasI)), .inl (xI X, 10, .inl (fillF 10 (-1) (fun _ => 0))), .inl (xI X, 10, .inl (fillF 10 (-1) (fun _ => 0))), .inl (xI X, 20, .inl (fun _ => 0))]
def Mi42 (X : xC) : List va_E := [.inr (5, [.ref (xB X + 1), .ref (xB X + 8), .null, .null, .null, .null, .null, .null, .null, .int 0]), .inr (1, [.ref (xB X + 2), .ref (xB X + 3), .ref (xB X + 5), .ref (xB X + 6), .ref (xB X + 7), .int 0, .int 1]), .inr (0, [.ref (xB X + 3), .ref (xB X + 4)]), .inl (xI X, 40, .inl (fillF 40 50 (fun _ => 0))), .inl (xI X, 10, .inl (hasI)), .inl (xI X, 10, .inl (fillF 10 (-1) (fun _ => 0))), .inl (xI X, 10, .inl (fillF 10 (-1) (fun _ => 0))), .inl (xI X, 20, .inl (fun _ => 0)), .inr (1, [.ref (xB X + 9), .ref (xB X + 10), .ref (xB X + 12), .ref (xB X + 13), .ref (xB X + 14), .int 0, .int 1]), .inr (0, [.ref (xB X + 10), .ref (xB X + 11)]), .inl (xI X, 40, .inl (fillF 40 50 (fun _ => 0))), .inl (xI X, 10, .inl (hasI)), .inl (xI X, 10, .inl (fillF 10 (-1) (fun _ => 0))), .inl (xI X, 10, .inl (fillF 10 (-1) (fun _ => 0))), .inl (xI X, 20, .inl (fun _ => 0)), .inr (1, [.null, .null, .null, .null, .null, .int 0, .int 0])]
def Mi43 (X : xC) : List va_E := [.inr (5, [.ref (xB X + 1), .ref (xB X + 8), .null, .null, .null, .null, .null, .null, .null, .int 0]), .inr (1, [.ref (xB X + 2), .ref (xB X + 3), .ref (xB X + 5), .ref (xB X + 6), .ref (xB X + 7), .int 0, .int 1]), .inr (0, [.ref (xB X + 3), .ref (xB X + 4)]), .inl (xI X, 40, .inl (fillF 40 50 (fun _ => 0))), .inl (xI X, 10, .inl (hasI)), .inl (xI X, 10, .inl (fillF 10 (-1) (fun _ => 0))), .inl (xI X, 10, .inl (fillF 10 (-1) (fun _ => 0))), .inl (xI X, 20, .inl (fun _ => 0)), .inr (1, [.ref (xB X + 9), .ref (xB X + 10), .ref (xB X + 12), .ref (xB X + 13), .ref (xB X + 14), .int 0, .int 1]), .inr (0, [.ref (xB X + 10), .ref (xB X + 11)]), .inl (xI X, 40, .inl (fillF 40 50 (fun _ => 0))), .inl (xI X, 10, .inl (hasI)), .inl (xI X, 10, .inl (fillF 10 (-1) (fun _ => 0))), .inl (xI X, 10, .inl (fillF 10 (-1) (fun _ => 0))), .inl (xI X, 20, .inl (fun _ => 0)), .inr (1, [.null, .null, .null, .null, .null, .int 0, .int 0])]
def Mi44 (X : xC) : List va_E := [.inr (5, [.ref (xB X + 1), .ref (xB X + 8), .null, .null, .null, .null, .null, .null, .null, .int 0]), .inr (1, [.ref (xB X + 2), .ref (xB X + 3), .ref (xB X + 5), .ref (xB X + 6), .ref (xB X + 7), .int 0, .int 1]), .inr (0, [.ref (xB X + 3), .ref (xB X + 4)]), .inl (xI X, 40, .inl (fillF 40 50 (fun _ => 0))), .inl (xI X, 10, .inl (hasI)), .inl (xI X, 10, .inl (fillF 10 (-1) (fun _ => 0))), .inl (xI X, 10, .inl (fillF 10 (-1) (fun _ => 0))), .inl (xI X, 20, .inl (fun _ => 0)), .inr (1, [.ref (xB X + 9), .ref (xB X + 10), .ref (xB X + 12), .ref (xB X + 13), .ref (xB X + 14), .int 0, .int 1]), .inr (0, [.ref (xB X + 10), .ref (xB X + 11)]), .inl (xI X, 40, .inl (fillF 40 50 (fun _ => 0))), .inl (xI X, 10, .inl (hasI)), .inl (xI X, 10, .inl (fillF 10 (-1) (fun _ => 0))), .inl (xI X, 10, .inl (fillF 10 (-1) (fun _ => 0))), .inl (xI X, 20, .inl (fun _ => 0)), .inr (1, [.null, .null, .null, .null, .null, .int 0, .int 0]), .inr (0, [.null, .null])]
def Mi45 (X : xC) : List va_E := [.inr (5, [.ref (xB X + 1), .ref (xB X + 8), .null, .null, .null, .null, .null, .null, .null, .int 0]), .inr (1, [.ref (xB X + 2), .ref (xB X + 3), .ref (xB X + 5), .ref (xB X + 6), .ref (xB X + 7), .int 0, .int 1]), .inr (0, [.ref (xB X + 3), .ref (xB X + 4)]), .inl (xI X, 40, .inl (fillF 40 50 (fun _ => 0))), .inl (xI X, 10, .inl (hasI)), .inl (xI X, 10, .inl (fillF 10 (-1) (fun _ => 0))), .inl (xI X, 10, .inl (fillF 10 (-1) (fun _ => 0))), .inl (xI X, 20, .inl (fun _ => 0)), .inr (1, [.ref (xB X + 9), .ref (xB X + 10), .ref (xB X + 12), .ref (xB X + 13), .ref (xB X + 14), .int 0, .int 1]), .inr (0, [.ref (xB X + 10), .ref (xB X + 11)]), .inl (xI X, 40, .inl (fillF 40 50 (fun _ => 0))), .inl (xI X, 10, .inl (hasI)), .inl (xI X, 10, .inl (fillF 10 (-1) (fun _ => 0))), .inl (xI X, 10, .inl (fillF 10 (-1) (fun _ => 0))), .inl (xI X, 20, .inl (fun _ => 0)), .inr (1, [.null, .null, .null, .null, .null, .int 0, .int 0]), .inr (0, [.null, .null]), .inl (xI X, 40, .inl (fun _ => 0))]
def Mi46 (X : xC) : List va_E := [.inr (5, [.ref (xB X + 1), .ref (xB X + 8), .null, .null, .null, .null, .null, .null, .null, .int 0]), .inr (1, [.ref (xB X + 2), .ref (xB X + 3), .ref (xB X + 5), .ref (xB X + 6), .ref (xB X + 7), .int 0, .int 1]), .inr (0, [.ref (xB X + 3), .ref (xB X + 4)]), .inl (xI X, 40, .inl (fillF 40 50 (fun _ => 0))), .inl (xI X, 10, .inl (hasI)), .inl (xI X, 10, .inl (fillF 10 (-1) (fun _ => 0))), .inl (xI X, 10, .inl (fillF 10 (-1) (fun _ => 0))), .inl (xI X, 20, .inl (fun _ => 0)), .inr (1, [.ref (xB X + 9), .ref (xB X + 10), .ref (xB X + 12), .ref (xB X + 13), .ref (xB X + 14), .int 0, .int 1]), .inr (0, [.ref (xB X + 10), .ref (xB X + 11)]), .inl (xI X, 40, .inl (fillF 40 50 (fun _ => 0))), .inl (xI X, 10, .inl (hasI)), .inl (xI X, 10, .inl (fillF 10 (-1) (fun _ => 0))), .inl (xI X, 10, .inl (fillF 10 (-1) (fun _ => 0))), .inl (xI X, 20, .inl (fun _ => 0)), .inr (1, [.null, .null, .null, .null, .null, .int 0, .int 0]), .inr (0, [.null, .null]), .inl (xI X, 40, .inl (fun _ => 0))]
def Mi47 (X : xC) : List va_E := [.inr (5, [.ref (xB X + 1), .ref (xB X + 8), .null, .null, .null, .null, .null, .null, .null, .int 0]), .inr (1, [.ref (xB X + 2), .ref (xB X + 3), .ref (xB X + 5), .ref (xB X + 6), .ref (xB X + 7), .int 0, .int 1]), .inr (0, [.ref (xB X + 3), .ref (xB X + 4)]), .inl (xI X, 40, .inl (fillF 40 50 (fun _ => 0))), .inl (xI X, 10, .inl (hasI)), .inl (xI X, 10, .inl (fillF 10 (-1) (fun _ => 0))), .inl (xI X, 10, .inl (fillF 10 (-1) (fun _ => 0))), .inl (xI X, 20, .inl (fun _ => 0)), .inr (1, [.ref (xB X + 9), .ref (xB X + 10), .ref (xB X + 12), .ref (xB X + 13), .ref (xB X + 14), .int 0, .int 1]), .inr (0, [.ref (xB X + 10), .ref (xB X + 11)]), .inl (xI X, 40, .inl (fillF 40 50 (fun _ => 0))), .inl (xI X, 10, .inl (hasI)), .inl (xI X, 10, .inl (fillF 10 (-1) (fun _ => 0))), .inl (xI X, 10, .inl (fillF 10 (-1) (fun _ => 0))), .inl (xI X, 20, .inl (fun _ => 0)), .inr (1, [.null, .null, .null, .null, .null, .int 0, .int 0]), .inr (0, [.ref (xB X + 17), .ref (xB X + 18)]), .inl (xI X, 40, .inl (fun _ => 0)), .inl (xI X, 10, .inl (hasI))]
set_option maxRecDepth 20000 in
set_option maxHeartbeats 4000000 in
theorem wi_L_47 {X : xC} {d : Nat} : Sem X k_L_init (d + 1) 0 [some (.ref (xB X + 16)), some (.ref (xB X + 17))] [] (Mi46 X) none (Mi47 X) 1 10 := by
  refine ev_aload_n d_L_init_0 rfl ?_
  refine ev_objInit d_L_init_1 ml_L_3 (Nat.le_of_ble_eq_true rfl) ?_
  refine ev_aload_n d_L_init_4 rfl ?_
  refine ev_bipush d_L_init_5 ?_
  refine ev_newa (kc := 0) (ks := 0) d_L_init_7 (by decide) (N := 10) (by decide) (by decide) (c0 := 18) rfl hxI ?_
  refine ev_dup d_L_init_9 rfl ?_
  refine ev_iconst d_L_init_10 ?_
  refine ev_bipush d_L_init_11 ?_
  refine ev_iast d_L_init_13 rfl (inb_in (by decide)) ?_
  refine ev_dup d_L_init_14 rfl ?_
  refine ev_iconst d_L_init_15 ?_
  refine ev_iconst d_L_init_16 ?_
  refine ev_iast d_L_init_17 rfl (inb_in (by decide)) ?_
  refine ev_dup d_L_init_18 rfl ?_
  refine ev_iconst d_L_init_19 ?_
  refine ev_bipush d_L_init_20 ?_
  refine ev_iast d_L_init_22 rfl (inb_in (by decide)) ?_
  refine ev_dup d_L_init_23 rfl ?_
  refine ev_iconst d_L_init_24 ?_
  refine ev_iconst d_L_init_25 ?_
  refine ev_iast d_L_init_26 rfl (inb_in (by decide)) ?_
  refine ev_dup d_L_init_27 rfl ?_
  refine ev_iconst d_L_init_28 ?_
  refine ev_iconst d_L_init_29 ?_
  refine ev_iast d_L_init_30 rfl (inb_in (by decide)) ?_
  refine ev_dup d_L_init_31 rfl ?_
  refine ev_iconst d_L_init_32 ?_
  refine ev_iconst d_L_init_33 ?_
  refine ev_iast d_L_init_34 rfl (inb_in (by decide)) ?_
  refine ev_dup d_L_init_35 rfl ?_
  refine ev_bipush d_L_init_36 ?_
  refine ev_sipush d_L_init_38 ?_
  refine ev_iast d_L_init_41 rfl (inb_in (by decide)) ?_
  refine ev_dup d_L_init_42 rfl ?_
  refine ev_bipush d_L_init_43 ?_
  refine ev_iconst d_L_init_45 ?_
  refine ev_iast d_L_init_46 rfl (inb_in (by decide)) ?_
  refine ev_dup d_L_init_47 rfl ?_
  refine ev_bipush d_L_init_48 ?_
  refine ev_iconst d_L_init_50 ?_
  refine ev_iast d_L_init_51 rfl (inb_in (by decide)) ?_
  refine ev_dup d_L_init_52 rfl ?_
  refine ev_bipush d_L_init_53 ?_
  refine ev_iconst d_L_init_55 ?_
  refine ev_iast d_L_init_56 rfl (inb_in (by decide)) ?_
  refine ev_putF d_L_init_57 fl_L_9 ⟨_, rfl, rfl⟩ rfl rfl rfl rfl rfl (Nat.le_of_ble_eq_true rfl) ?_
  refine ev_aload_n d_L_init_60 rfl ?_
  refine ev_aload_n d_L_init_61 rfl ?_
  refine ev_putF d_L_init_62 fl_L_15 ⟨_, rfl, rfl⟩ rfl rfl rfl rfl rfl (Nat.le_of_ble_eq_true rfl) ?_
  exact ev_return d_L_init_65 rfl
def Mi48 (X : xC) : List va_E := [.inr (5, [.ref (xB X + 1), .ref (xB X + 8), .null, .null, .null, .null, .null, .null, .null, .int 0]), .inr (1, [.ref (xB X + 2), .ref (xB X + 3), .ref (xB X + 5), .ref (xB X + 6), .ref (xB X + 7), .int 0, .int 1]), .inr (0, [.ref (xB X + 3), .ref (xB X + 4)]), .inl (xI X, 40, .inl (fillF 40 50 (fun _ => 0))), .inl (xI X, 10, .inl (hasI)), .inl (xI X, 10, .inl (fillF 10 (-1) (fun _ => 0))), .inl (xI X, 10, .inl (fillF 10 (-1) (fun _ => 0))), .inl (xI X, 20, .inl (fun _ => 0)), .inr (1, [.ref (xB X + 9), .ref (xB X + 10), .ref (xB X + 12), .ref (xB X + 13), .ref (xB X + 14), .int 0, .int 1]), .inr (0, [.ref (xB X + 10), .ref (xB X + 11)]), .inl (xI X, 40, .inl (fillF 40 50 (fun _ => 0))), .inl (xI X, 10, .inl (hasI)), .inl (xI X, 10, .inl (fillF 10 (-1) (fun _ => 0))), .inl (xI X, 10, .inl (fillF 10 (-1) (fun _ => 0))), .inl (xI X, 20, .inl (fun _ => 0)), .inr (1, [.ref (xB X + 16), .null, .null, .null, .null, .int 0, .int 0]), .inr (0, [.ref (xB X + 17), .ref (xB X + 18)]), .inl (xI X, 40, .inl (fun _ => 0)), .inl (xI X, 10, .inl (hasI))]
def Mi49 (X : xC) : List va_E := [.inr (5, [.ref (xB X + 1), .ref (xB X + 8), .null, .null, .null, .null, .null, .null, .null, .int 0]), .inr (1, [.ref (xB X + 2), .ref (xB X + 3), .ref (xB X + 5), .ref (xB X + 6), .ref (xB X + 7), .int 0, .int 1]), .inr (0, [.ref (xB X + 3), .ref (xB X + 4)]), .inl (xI X, 40, .inl (fillF 40 50 (fun _ => 0))), .inl (xI X, 10, .inl (hasI)), .inl (xI X, 10, .inl (fillF 10 (-1) (fun _ => 0))), .inl (xI X, 10, .inl (fillF 10 (-1) (fun _ => 0))), .inl (xI X, 20, .inl (fun _ => 0)), .inr (1, [.ref (xB X + 9), .ref (xB X + 10), .ref (xB X + 12), .ref (xB X + 13), .ref (xB X + 14), .int 0, .int 1]), .inr (0, [.ref (xB X + 10), .ref (xB X + 11)]), .inl (xI X, 40, .inl (fillF 40 50 (fun _ => 0))), .inl (xI X, 10, .inl (hasI)), .inl (xI X, 10, .inl (fillF 10 (-1) (fun _ => 0))), .inl (xI X, 10, .inl (fillF 10 (-1) (fun _ => 0))), .inl (xI X, 20, .inl (fun _ => 0)), .inr (1, [.ref (xB X + 16), .ref (xB X + 17), .null, .null, .null, .int 0, .int 0]), .inr (0, [.ref (xB X + 17), .ref (xB X + 18)]), .inl (xI X, 40, .inl (fun _ => 0)), .inl (xI X, 10, .inl (hasI))]
def Mi50 (X : xC) : List va_E := [.inr (5, [.ref (xB X + 1), .ref (xB X + 8), .null, .null, .null, .null, .null, .null, .null, .int 0]), .inr (1, [.ref (xB X + 2), .ref (xB X + 3), .ref (xB X + 5), .ref (xB X + 6), .ref (xB X + 7), .int 0, .int 1]), .inr (0, [.ref (xB X + 3), .ref (xB X + 4)]), .inl (xI X, 40, .inl (fillF 40 50 (fun _ => 0))), .inl (xI X, 10, .inl (hasI)), .inl (xI X, 10, .inl (fillF 10 (-1) (fun _ => 0))), .inl (xI X, 10, .inl (fillF 10 (-1) (fun _ => 0))), .inl (xI X, 20, .inl (fun _ => 0)), .inr (1, [.ref (xB X + 9), .ref (xB X + 10), .ref (xB X + 12), .ref (xB X + 13), .ref (xB X + 14), .int 0, .int 1]), .inr (0, [.ref (xB X + 10), .ref (xB X + 11)]), .inl (xI X, 40, .inl (fillF 40 50 (fun _ => 0))), .inl (xI X, 10, .inl (hasI)), .inl (xI X, 10, .inl (fillF 10 (-1) (fun _ => 0))), .inl (xI X, 10, .inl (fillF 10 (-1) (fun _ => 0))), .inl (xI X, 20, .inl (fun _ => 0)), .inr (1, [.ref (xB X + 16), .ref (xB X + 17), .null, .null, .null, .int 0, .int 0]), .inr (0, [.ref (xB X + 17), .ref (xB X + 18)]), .inl (xI X, 40, .inl (fun _ => 0)), .inl (xI X, 10, .inl (hasI)), .inl (xI X, 10, .inl (fun _ => 0))]
def Mi51 (X : xC) : List va_E := [.inr (5, [.ref (xB X + 1), .ref (xB X + 8), .null, .null, .null, .null, .null, .null, .null, .int 0]), .inr (1, [.ref (xB X + 2), .ref (xB X + 3), .ref (xB X + 5), .ref (xB X + 6), .ref (xB X + 7), .int 0, .int 1]), .inr (0, [.ref (xB X + 3), .ref (xB X + 4)]), .inl (xI X, 40, .inl (fillF 40 50 (fun _ => 0))), .inl (xI X, 10, .inl (hasI)), .inl (xI X, 10, .inl (fillF 10 (-1) (fun _ => 0))), .inl (xI X, 10, .inl (fillF 10 (-1) (fun _ => 0))), .inl (xI X, 20, .inl (fun _ => 0)), .inr (1, [.ref (xB X + 9), .ref (xB X + 10), .ref (xB X + 12), .ref (xB X + 13), .ref (xB X + 14), .int 0, .int 1]), .inr (0, [.ref (xB X + 10), .ref (xB X + 11)]), .inl (xI X, 40, .inl (fillF 40 50 (fun _ => 0))), .inl (xI X, 10, .inl (hasI)), .inl (xI X, 10, .inl (fillF 10 (-1) (fun _ => 0))), .inl (xI X, 10, .inl (fillF 10 (-1) (fun _ => 0))), .inl (xI X, 20, .inl (fun _ => 0)), .inr (1, [.ref (xB X + 16), .ref (xB X + 17), .ref (xB X + 19), .null, .null, .int 0, .int 0]), .inr (0, [.ref (xB X + 17), .ref (xB X + 18)]), .inl (xI X, 40, .inl (fun _ => 0)), .inl (xI X, 10, .inl (hasI)), .inl (xI X, 10, .inl (fun _ => 0))]
def Mi52 (X : xC) : List va_E := [.inr (5, [.ref (xB X + 1), .ref (xB X + 8), .null, .null, .null, .null, .null, .null, .null, .int 0]), .inr (1, [.ref (xB X + 2), .ref (xB X + 3), .ref (xB X + 5), .ref (xB X + 6), .ref (xB X + 7), .int 0, .int 1]), .inr (0, [.ref (xB X + 3), .ref (xB X + 4)]), .inl (xI X, 40, .inl (fillF 40 50 (fun _ => 0))), .inl (xI X, 10, .inl (hasI)), .inl (xI X, 10, .inl (fillF 10 (-1) (fun _ => 0))), .inl (xI X, 10, .inl (fillF 10 (-1) (fun _ => 0))), .inl (xI X, 20, .inl (fun _ => 0)), .inr (1, [.ref (xB X + 9), .ref (xB X + 10), .ref (xB X + 12), .ref (xB X + 13), .ref (xB X + 14), .int 0, .int 1]), .inr (0, [.ref (xB X + 10), .ref (xB X + 11)]), .inl (xI X, 40, .inl (fillF 40 50 (fun _ => 0))), .inl (xI X, 10, .inl (hasI)), .inl (xI X, 10, .inl (fillF 10 (-1) (fun _ => 0))), .inl (xI X, 10, .inl (fillF 10 (-1) (fun _ => 0))), .inl (xI X, 20, .inl (fun _ => 0)), .inr (1, [.ref (xB X + 16), .ref (xB X + 17), .ref (xB X + 19), .null, .null, .int 0, .int 0]), .inr (0, [.ref (xB X + 17), .ref (xB X + 18)]), .inl (xI X, 40, .inl (fun _ => 0)), .inl (xI X, 10, .inl (hasI)), .inl (xI X, 10, .inl (fun _ => 0)), .inl (xI X, 10, .inl (fun _ => 0))]
def Mi53 (X : xC) : List va_E := [.inr (5, [.ref (xB X + 1), .ref (xB X + 8), .null, .null, .null, .null, .null, .null, .null, .int 0]), .inr (1, [.ref (xB X + 2), .ref (xB X + 3), .ref (xB X + 5), .ref (xB X + 6), .ref (xB X + 7), .int 0, .int 1]), .inr (0, [.ref (xB X + 3), .ref (xB X + 4)]), .inl (xI X, 40, .inl (fillF 40 50 (fun _ => 0))), .inl (xI X, 10, .inl (hasI)), .inl (xI X, 10, .inl (fillF 10 (-1) (fun _ => 0))), .inl (xI X, 10, .inl (fillF 10 (-1) (fun _ => 0))), .inl (xI X, 20, .inl (fun _ => 0)), .inr (1, [.ref (xB X + 9), .ref (xB X + 10), .ref (xB X + 12), .ref (xB X + 13), .ref (xB X + 14), .int 0, .int 1]), .inr (0, [.ref (xB X + 10), .ref (xB X + 11)]), .inl (xI X, 40, .inl (fillF 40 50 (fun _ => 0))), .inl (xI X, 10, .inl (hasI)), .inl (xI X, 10, .inl (fillF 10 (-1) (fun _ => 0))), .inl (xI X, 10, .inl (fillF 10 (-1) (fun _ => 0))), .inl (xI X, 20, .inl (fun _ => 0)), .inr (1, [.ref (xB X + 16), .ref (xB X + 17), .ref (xB X + 19), .ref (xB X + 20), .null, .int 0, .int 0]), .inr (0, [.ref (xB X + 17), .ref (xB X + 18)]), .inl (xI X, 40, .inl (fun _ => 0)), .inl (xI X, 10, .inl (hasI)), .inl (xI X, 10, .inl (fun _ => 0)), .inl (xI X, 10, .inl (fun _ => 0))]
def Mi54 (X : xC) : List va_E := [.inr (5, [.ref (xB X + 1), .ref (xB X + 8), .null, .null, .null, .null, .null, .null, .null, .int 0]), .inr (1, [.ref (xB X + 2), .ref (xB X + 3), .ref (xB X + 5), .ref (xB X + 6), .ref (xB X + 7), .int 0, .int 1]), .inr (0, [.ref (xB X + 3), .ref (xB X + 4)]), .inl (xI X, 40, .inl (fillF 40 50 (fun _ => 0))), .inl (xI X, 10, .inl (hasI)), .inl (xI X, 10, .inl (fillF 10 (-1) (fun _ => 0))), .inl (xI X, 10, .inl (fillF 10 (-1) (fun _ => 0))), .inl (xI X, 20, .inl (fun _ => 0)), .inr (1, [.ref (xB X + 9), .ref (xB X + 10), .ref (xB X + 12), .ref (xB X + 13), .ref (xB X + 14), .int 0, .int 1]), .inr (0, [.ref (xB X + 10), .ref (xB X + 11)]), .inl (xI X, 40, .inl (fillF 40 50 (fun _ => 0))), .inl (xI X, 10, .inl (hasI)), .inl (xI X, 10, .inl (fillF 10 (-1) (fun _ => 0))), .inl (xI X, 10, .inl (fillF 10 (-1) (fun _ => 0))), .inl (xI X, 20, .inl (fun _ => 0)), .inr (1, [.ref (xB X + 16), .ref (xB X + 17), .ref (xB X + 19), .ref (xB X + 20), .null, .int 0, .int 0]), .inr (0, [.ref (xB X + 17), .ref (xB X + 18)]), .inl (xI X, 40, .inl (fun _ => 0)), .inl (xI X, 10, .inl (hasI)), .inl (xI X, 10, .inl (fun _ => 0)), .inl (xI X, 10, .inl (fun _ => 0)), .inl (xI X, 20, .inl (fun _ => 0))]
def Mi55 (X : xC) : List va_E := [.inr (5, [.ref (xB X + 1), .ref (xB X + 8), .null, .null, .null, .null, .null, .null, .null, .int 0]), .inr (1, [.ref (xB X + 2), .ref (xB X + 3), .ref (xB X + 5), .ref (xB X + 6), .ref (xB X + 7), .int 0, .int 1]), .inr (0, [.ref (xB X + 3), .ref (xB X + 4)]), .inl (xI X, 40, .inl (fillF 40 50 (fun _ => 0))), .inl (xI X, 10, .inl (hasI)), .inl (xI X, 10, .inl (fillF 10 (-1) (fun _ => 0))), .inl (xI X, 10, .inl (fillF 10 (-1) (fun _ => 0))), .inl (xI X, 20, .inl (fun _ => 0)), .inr (1, [.ref (xB X + 9), .ref (xB X + 10), .ref (xB X + 12), .ref (xB X + 13), .ref (xB X + 14), .int 0, .int 1]), .inr (0, [.ref (xB X + 10), .ref (xB X + 11)]), .inl (xI X, 40, .inl (fillF 40 50 (fun _ => 0))), .inl (xI X, 10, .inl (hasI)), .inl (xI X, 10, .inl (fillF 10 (-1) (fun _ => 0))), .inl (xI X, 10, .inl (fillF 10 (-1) (fun _ => 0))), .inl (xI X, 20, .inl (fun _ => 0)), .inr (1, [.ref (xB X + 16), .ref (xB X + 17), .ref (xB X + 19), .ref (xB X + 20), .ref (xB X + 21), .int 0, .int 0]), .inr (0, [.ref (xB X + 17), .ref (xB X + 18)]), .inl (xI X, 40, .inl (fun _ => 0)), .inl (xI X, 10, .inl (hasI)), .inl (xI X, 10, .inl (fun _ => 0)), .inl (xI X, 10, .inl (fun _ => 0)), .inl (xI X, 20, .inl (fun _ => 0))]
def Mi56 (X : xC) : List va_E := [.inr (5, [.ref (xB X + 1), .ref (xB X + 8), .null, .null, .null, .null, .null, .null, .null, .int 0]), .inr (1, [.ref (xB X + 2), .ref (xB X + 3), .ref (xB X + 5), .ref (xB X + 6), .ref (xB X + 7), .int 0, .int 1]), .inr (0, [.ref (xB X + 3), .ref (xB X + 4)]), .inl (xI X, 40, .inl (fillF 40 50 (fun _ => 0))), .inl (xI X, 10, .inl (hasI)), .inl (xI X, 10, .inl (fillF 10 (-1) (fun _ => 0))), .inl (xI X, 10, .inl (fillF 10 (-1) (fun _ => 0))), .inl (xI X, 20, .inl (fun _ => 0)), .inr (1, [.ref (xB X + 9), .ref (xB X + 10), .ref (xB X + 12), .ref (xB X + 13), .ref (xB X + 14), .int 0, .int 1]), .inr (0, [.ref (xB X + 10), .ref (xB X + 11)]), .inl (xI X, 40, .inl (fillF 40 50 (fun _ => 0))), .inl (xI X, 10, .inl (hasI)), .inl (xI X, 10, .inl (fillF 10 (-1) (fun _ => 0))), .inl (xI X, 10, .inl (fillF 10 (-1) (fun _ => 0))), .inl (xI X, 20, .inl (fun _ => 0)), .inr (1, [.ref (xB X + 16), .ref (xB X + 17), .ref (xB X + 19), .ref (xB X + 20), .ref (xB X + 21), .int 0, .int 1]), .inr (0, [.ref (xB X + 17), .ref (xB X + 18)]), .inl (xI X, 40, .inl (fun _ => 0)), .inl (xI X, 10, .inl (hasI)), .inl (xI X, 10, .inl (fun _ => 0)), .inl (xI X, 10, .inl (fun _ => 0)), .inl (xI X, 20, .inl (fun _ => 0))]
def Mi57 (X : xC) : List va_E := [.inr (5, [.ref (xB X + 1), .ref (xB X + 8), .null, .null, .null, .null, .null, .null, .null, .int 0]), .inr (1, [.ref (xB X + 2), .ref (xB X + 3), .ref (xB X + 5), .ref (xB X + 6), .ref (xB X + 7), .int 0, .int 1]), .inr (0, [.ref (xB X + 3), .ref (xB X + 4)]), .inl (xI X, 40, .inl (fillF 40 50 (fun _ => 0))), .inl (xI X, 10, .inl (hasI)), .inl (xI X, 10, .inl (fillF 10 (-1) (fun _ => 0))), .inl (xI X, 10, .inl (fillF 10 (-1) (fun _ => 0))), .inl (xI X, 20, .inl (fun _ => 0)), .inr (1, [.ref (xB X + 9), .ref (xB X + 10), .ref (xB X + 12), .ref (xB X + 13), .ref (xB X + 14), .int 0, .int 1]), .inr (0, [.ref (xB X + 10), .ref (xB X + 11)]), .inl (xI X, 40, .inl (fillF 40 50 (fun _ => 0))), .inl (xI X, 10, .inl (hasI)), .inl (xI X, 10, .inl (fillF 10 (-1) (fun _ => 0))), .inl (xI X, 10, .inl (fillF 10 (-1) (fun _ => 0))), .inl (xI X, 20, .inl (fun _ => 0)), .inr (1, [.ref (xB X + 16), .ref (xB X + 17), .ref (xB X + 19), .ref (xB X + 20), .ref (xB X + 21), .int 0, .int 1]), .inr (0, [.ref (xB X + 17), .ref (xB X + 18)]), .inl (xI X, 40, .inl (fillF 40 50 (fun _ => 0))), .inl (xI X, 10, .inl (hasI)), .inl (xI X, 10, .inl (fun _ => 0)), .inl (xI X, 10, .inl (fun _ => 0)), .inl (xI X, 20, .inl (fun _ => 0))]
def Mi58 (X : xC) : List va_E := [.inr (5, [.ref (xB X + 1), .ref (xB X + 8), .null, .null, .null, .null, .null, .null, .null, .int 0]), .inr (1, [.ref (xB X + 2), .ref (xB X + 3), .ref (xB X + 5), .ref (xB X + 6), .ref (xB X + 7), .int 0, .int 1]), .inr (0, [.ref (xB X + 3), .ref (xB X + 4)]), .inl (xI X, 40, .inl (fillF 40 50 (fun _ => 0))), .inl (xI X, 10, .inl (hasI)), .inl (xI X, 10, .inl (fillF 10 (-1) (fun _ => 0))), .inl (xI X, 10, .inl (fillF 10 (-1) (fun _ => 0))), .inl (xI X, 20, .inl (fun _ => 0)), .inr (1, [.ref (xB X + 9), .ref (xB X + 10), .ref (xB X + 12), .ref (xB X + 13), .ref (xB X + 14), .int 0, .int 1]), .inr (0, [.ref (xB X + 10), .ref (xB X + 11)]), .inl (xI X, 40, .inl (fillF 40 50 (fun _ => 0))), .inl (xI X, 10, .inl (hasI)), .inl (xI X, 10, .inl (fillF 10 (-1) (fun _ => 0))), .inl (xI X, 10, .inl (fillF 10 (-1) (fun _ => 0))), .inl (xI X, 20, .inl (fun _ => 0)), .inr (1, [.ref (xB X + 16), .ref (xB X + 17), .ref (xB X + 19), .ref (xB X + 20), .ref (xB X + 21), .int 0, .int 1]), .inr (0, [.ref (xB X + 17), .ref (xB X + 18)]), .inl (xI X, 40, .inl (fillF 40 50 (fun _ => 0))), .inl (xI X, 10, .inl (hasI)), .inl (xI X, 10, .inl (fillF 10 (-1) (fun _ => 0))), .inl (xI X, 10, .inl (fun _ => 0)), .inl (xI X, 20, .inl (fun _ => 0))]
def Mi59 (X : xC) : List va_E := [.inr (5, [.ref (xB X + 1), .ref (xB X + 8), .null, .null, .null, .null, .null, .null, .null, .int 0]), .inr (1, [.ref (xB X + 2), .ref (xB X + 3), .ref (xB X + 5), .ref (xB X + 6), .ref (xB X + 7), .int 0, .int 1]), .inr (0, [.ref (xB X + 3), .ref (xB X + 4)]), .inl (xI X, 40, .inl (fillF 40 50 (fun _ => 0))), .inl (xI X, 10, .inl (hasI)), .inl (xI X, 10, .inl (fillF 10 (-1) (fun _ => 0))), .inl (xI X, 10, .inl (fillF 10 (-1) (fun _ => 0))), .inl (xI X, 20, .inl (fun _ => 0)), .inr (1, [.ref (xB X + 9), .ref (xB X + 10), .ref (xB X + 12), .ref (xB X + 13), .ref (xB X + 14), .int 0, .int 1]), .inr (0, [.ref (xB X + 10), .ref (xB X + 11)]), .inl (xI X, 40, .inl (fillF 40 50 (fun _ => 0))), .inl (xI X, 10, .inl (hasI)), .inl (xI X, 10, .inl (fillF 10 (-1) (fun _ => 0))), .inl (xI X, 10, .inl (fillF 10 (-1) (fun _ => 0))), .inl (xI X, 20, .inl (fun _ => 0)), .inr (1, [.ref (xB X + 16), .ref (xB X + 17), .ref (xB X + 19), .ref (xB X + 20), .ref (xB X + 21), .int 0, .int 1]), .inr (0, [.ref (xB X + 17), .ref (xB X + 18)]), .inl (xI X, 40, .inl (fillF 40 50 (fun _ => 0))), .inl (xI X, 10, .inl (hasI)), .inl (xI X, 10, .inl (fillF 10 (-1) (fun _ => 0))), .inl (xI X, 10, .inl (fillF 10 (-1) (fun _ => 0))), .inl (xI X, 20, .inl (fun _ => 0))]
def Mi60 (X : xC) : List va_E := [.inr (5, [.ref (xB X + 1), .ref (xB X + 8), .null, .null, .null, .null, .null, .null, .null, .int 0]), .inr (1, [.ref (xB X + 2), .ref (xB X + 3), .ref (xB X + 5), .ref (xB X + 6), .ref (xB X + 7), .int 0, .int 1]), .inr (0, [.ref (xB X + 3), .ref (xB X + 4)]), .inl (xI X, 40, .inl (fillF 40 50 (fun _ => 0))), .inl (xI X, 10, .inl (hasI)), .inl (xI X, 10, .inl (fillF 10 (-1) (fun _ => 0))), .inl (xI X, 10, .inl (fillF 10 (-1) (fun _ => 0))), .inl (xI X, 20, .inl (fun _ => 0)), .inr (1, [.ref (xB X + 9), .ref (xB X + 10), .ref (xB X + 12), .ref (xB X + 13), .ref (xB X + 14), .int 0, .int 1]), .inr (0, [.ref (xB X + 10), .ref (xB X + 11)]), .inl (xI X, 40, .inl (fillF 40 50 (fun _ => 0))), .inl (xI X, 10, .inl (hasI)), .inl (xI X, 10, .inl (fillF 10 (-1) (fun _ => 0))), .inl (xI X, 10, .inl (fillF 10 (-1) (fun _ => 0))), .inl (xI X, 20, .inl (fun _ => 0)), .inr (1, [.ref (xB X + 16), .ref (xB X + 17), .ref (xB X + 19), .ref (xB X + 20), .ref (xB X + 21), .int 0, .int 1]), .inr (0, [.ref (xB X + 17), .ref (xB X + 18)]), .inl (xI X, 40, .inl (fillF 40 50 (fun _ => 0))), .inl (xI X, 10, .inl (hasI)), .inl (xI X, 10, .inl (fillF 10 (-1) (fun _ => 0))), .inl (xI X, 10, .inl (fillF 10 (-1) (fun _ => 0))), .inl (xI X, 20, .inl (fun _ => 0))]
set_option maxRecDepth 20000 in
set_option maxHeartbeats 4000000 in
theorem wi_C_60 {X : xC} {d : Nat} : Sem X k_C_init (d + 2) 0 [some (.ref (xB X + 15))] [] (Mi43 X) none (Mi60 X) 6 92 := by
  refine ev_aload_n d_C_init_0 rfl ?_
  refine ev_objInit d_C_init_1 ml_C_3 (Nat.le_of_ble_eq_true rfl) ?_
  refine ev_aload_n d_C_init_4 rfl ?_
  refine ev_new (kc := 5) (ks := 90) (ci := 0) (fs := [.null, .null]) d_C_init_5 rfl (TG_at 29 (by decide +kernel) (by decide +kernel)) (TG_at 30 (by decide +kernel) (by decide +kernel)) (TG_at 3 (by decide +kernel) (by decide +kernel)) dv_0 (c0 := 16) rfl ?_
  refine Sem.mem (M2 := Mi44 X) rfl ?_
  refine ev_dup d_C_init_8 rfl ?_
  refine ev_bipush d_C_init_9 ?_
  refine ev_newa (kc := 4) (ks := 50) d_C_init_11 (by decide) (N := 40) (by decide) (by decide) (c0 := 17) rfl hxI ?_
  refine Sem.mem (M2 := Mi45 X) rfl ?_
  refine ev_callI (As := [.ref (xB X + 17)]) (k1 := 1) (s1 := 10) (kc := 3) (ks := 40) d_C_init_13 ml_C_11 ik_L_init rfl rfl (cat_cons rfl (fun v hv => by cases hv)) (Nat.le_of_ble_eq_true rfl) (wi_L_47 (X := X) (d := d)) ?_
  refine ev_putF d_C_init_16 fl_C_14 ⟨_, rfl, rfl⟩ rfl rfl rfl rfl rfl (Nat.le_of_ble_eq_true rfl) ?_
  refine Sem.mem (M2 := Mi48 X) rfl ?_
  refine ev_aload_n d_C_init_19 rfl ?_
  refine ev_aload_n d_C_init_20 rfl ?_
  refine ev_get d_C_init_21 fl_C_14 rfl rfl ?_
  refine ev_get d_C_init_24 fl_C_20 rfl rfl ?_
  refine ev_putF d_C_init_27 fl_C_24 ⟨_, rfl, rfl⟩ rfl rfl rfl rfl rfl (Nat.le_of_ble_eq_true rfl) ?_
  refine Sem.mem (M2 := Mi49 X) rfl ?_
  refine ev_aload_n d_C_init_30 rfl ?_
  refine ev_bipush d_C_init_31 ?_
  refine ev_newa (kc := 2) (ks := 30) d_C_init_33 (by decide) (N := 10) (by decide) (by decide) (c0 := 19) rfl hxI ?_
  refine Sem.mem (M2 := Mi50 X) rfl ?_
  refine ev_putF d_C_init_35 fl_C_25 ⟨_, rfl, rfl⟩ rfl rfl rfl rfl rfl (Nat.le_of_ble_eq_true rfl) ?_
  refine Sem.mem (M2 := Mi51 X) rfl ?_
  refine ev_aload_n d_C_init_38 rfl ?_
  refine ev_bipush d_C_init_39 ?_
  refine ev_newa (kc := 1) (ks := 20) d_C_init_41 (by decide) (N := 10) (by decide) (by decide) (c0 := 20) rfl hxI ?_
  refine Sem.mem (M2 := Mi52 X) rfl ?_
  refine ev_putF d_C_init_43 fl_C_28 ⟨_, rfl, rfl⟩ rfl rfl rfl rfl rfl (Nat.le_of_ble_eq_true rfl) ?_
  refine Sem.mem (M2 := Mi53 X) rfl ?_
  refine ev_aload_n d_C_init_46 rfl ?_
  refine ev_bipush d_C_init_47 ?_
  refine ev_newa (kc := 0) (ks := 0) d_C_init_49 (by decide) (N := 20) (by decide) (by decide) (c0 := 21) rfl hxI ?_
  refine Sem.mem (M2 := Mi54 X) rfl ?_
  refine ev_putF d_C_init_51 fl_C_31 ⟨_, rfl, rfl⟩ rfl rfl rfl rfl rfl (Nat.le_of_ble_eq_true rfl) ?_
  refine Sem.mem (M2 := Mi55 X) rfl ?_
  refine ev_aload_n d_C_init_54 rfl ?_
  refine ev_iconst d_C_init_55 ?_
  refine ev_put d_C_init_56 fl_C_34 ⟨_, rfl, rfl⟩ rfl rfl rfl (Nat.le_of_ble_eq_true rfl) ?_
  refine Sem.mem (M2 := Mi56 X) rfl ?_
  refine ev_aload_n d_C_init_59 rfl ?_
  refine ev_get d_C_init_60 fl_C_24 rfl rfl ?_
  refine ev_bipush d_C_init_63 ?_
  refine ev_callS (As := [.ref (xB X + 17), .int 50]) (k1 := 0) (s1 := 0) (kc := 0) (ks := 0) d_C_init_65 ml_C_38 sk_JA_fill (cat_cons rfl (cat_cons rfl (fun v hv => by cases hv))) (Nat.le_of_ble_eq_true rfl) (w_fill (n := 40) (by decide) rfl) ?_
  refine Sem.mem (M2 := Mi57 X) rfl ?_
  refine ev_aload_n d_C_init_68 rfl ?_
  refine ev_get d_C_init_69 fl_C_25 rfl rfl ?_
  refine ev_iconst d_C_init_72 ?_
  refine ev_callS (As := [.ref (xB X + 19), .int (-1)]) (k1 := 0) (s1 := 0) (kc := 0) (ks := 0) d_C_init_73 ml_C_38 sk_JA_fill (cat_cons rfl (cat_cons rfl (fun v hv => by cases hv))) (Nat.le_of_ble_eq_true rfl) (w_fill (n := 10) (by decide) rfl) ?_
  refine Sem.mem (M2 := Mi58 X) rfl ?_
  refine ev_aload_n d_C_init_76 rfl ?_
  refine ev_get d_C_init_77 fl_C_28 rfl rfl ?_
  refine ev_iconst d_C_init_80 ?_
  refine ev_callS (As := [.ref (xB X + 20), .int (-1)]) (k1 := 0) (s1 := 0) (kc := 0) (ks := 0) d_C_init_81 ml_C_38 sk_JA_fill (cat_cons rfl (cat_cons rfl (fun v hv => by cases hv))) (Nat.le_of_ble_eq_true rfl) (w_fill (n := 10) (by decide) rfl) ?_
  refine Sem.mem (M2 := Mi59 X) rfl ?_
  exact ev_return d_C_init_84 rfl
def Mi61 (X : xC) : List va_E := [.inr (5, [.ref (xB X + 1), .ref (xB X + 8), .ref (xB X + 15), .null, .null, .null, .null, .null, .null, .int 0]), .inr (1, [.ref (xB X + 2), .ref (xB X + 3), .ref (xB X + 5), .ref (xB X + 6), .ref (xB X + 7), .int 0, .int 1]), .inr (0, [.ref (xB X + 3), .ref (xB X + 4)]), .inl (xI X, 40, .inl (fillF 40 50 (fun _ => 0))), .inl (xI X, 10, .inl (hasI)), .inl (xI X, 10, .inl (fillF 10 (-1) (fun _ => 0))), .inl (xI X, 10, .inl (fillF 10 (-1) (fun _ => 0))), .inl (xI X, 20, .inl (fun _ => 0)), .inr (1, [.ref (xB X + 9), .ref (xB X + 10), .ref (xB X + 12), .ref (xB X + 13), .ref (xB X + 14), .int 0, .int 1]), .inr (0, [.ref (xB X + 10), .ref (xB X + 11)]), .inl (xI X, 40, .inl (fillF 40 50 (fun _ => 0))), .inl (xI X, 10, .inl (hasI)), .inl (xI X, 10, .inl (fillF 10 (-1) (fun _ => 0))), .inl (xI X, 10, .inl (fillF 10 (-1) (fun _ => 0))), .inl (xI X, 20, .inl (fun _ => 0)), .inr (1, [.ref (xB X + 16), .ref (xB X + 17), .ref (xB X + 19), .ref (xB X + 20), .ref (xB X + 21), .int 0, .int 1]), .inr (0, [.ref (xB X + 17), .ref (xB X + 18)]), .inl (xI X, 40, .inl (fillF 40 50 (fun _ => 0))), .inl (xI X, 10, .inl (hasI)), .inl (xI X, 10, .inl (fillF 10 (-1) (fun _ => 0))), .inl (xI X, 10, .inl (fillF 10 (-1) (fun _ => 0))), .inl (xI X, 20, .inl (fun _ => 0))]
def Mi62 (X : xC) : List va_E := [.inr (5, [.ref (xB X + 1), .ref (xB X + 8), .ref (xB X + 15), .ref (xB X + 2), .null, .null, .null, .null, .null, .int 0]), .inr (1, [.ref (xB X + 2), .ref (xB X + 3), .ref (xB X + 5), .ref (xB X + 6), .ref (xB X + 7), .int 0, .int 1]), .inr (0, [.ref (xB X + 3), .ref (xB X + 4)]), .inl (xI X, 40, .inl (fillF 40 50 (fun _ => 0))), .inl (xI X, 10, .inl (hasI)), .inl (xI X, 10, .inl (fillF 10 (-1) (fun _ => 0))), .inl (xI X, 10, .inl (fillF 10 (-1) (fun _ => 0))), .inl (xI X, 20, .inl (fun _ => 0)), .inr (1, [.ref (xB X + 9), .ref (xB X + 10), .ref (xB X + 12), .ref (xB X + 13), .ref (xB X + 14), .int 0, .int 1]), .inr (0, [.ref (xB X + 10), .ref (xB X + 11)]), .inl (xI X, 40, .inl (fillF 40 50 (fun _ => 0))), .inl (xI X, 10, .inl (hasI)), .inl (xI X, 10, .inl (fillF 10 (-1) (fun _ => 0))), .inl (xI X, 10, .inl (fillF 10 (-1) (fun _ => 0))), .inl (xI X, 20, .inl (fun _ => 0)), .inr (1, [.ref (xB X + 16), .ref (xB X + 17), .ref (xB X + 19), .ref (xB X + 20), .ref (xB X + 21), .int 0, .int 1]), .inr (0, [.ref (xB X + 17), .ref (xB X + 18)]), .inl (xI X, 40, .inl (fillF 40 50 (fun _ => 0))), .inl (xI X, 10, .inl (hasI)), .inl (xI X, 10, .inl (fillF 10 (-1) (fun _ => 0))), .inl (xI X, 10, .inl (fillF 10 (-1) (fun _ => 0))), .inl (xI X, 20, .inl (fun _ => 0))]
def Mi63 (X : xC) : List va_E := [.inr (5, [.ref (xB X + 1), .ref (xB X + 8), .ref (xB X + 15), .ref (xB X + 2), .null, .null, .null, .null, .null, .int 0]), .inr (1, [.ref (xB X + 2), .ref (xB X + 3), .ref (xB X + 5), .ref (xB X + 6), .ref (xB X + 7), .int 0, .int 1]), .inr (0, [.ref (xB X + 3), .ref (xB X + 4)]), .inl (xI X, 40, .inl (fillF 40 50 (fun _ => 0))), .inl (xI X, 10, .inl (hasI)), .inl (xI X, 10, .inl (fillF 10 (-1) (fun _ => 0))), .inl (xI X, 10, .inl (fillF 10 (-1) (fun _ => 0))), .inl (xI X, 20, .inl (fun _ => 0)), .inr (1, [.ref (xB X + 9), .ref (xB X + 10), .ref (xB X + 12), .ref (xB X + 13), .ref (xB X + 14), .int 0, .int 1]), .inr (0, [.ref (xB X + 10), .ref (xB X + 11)]), .inl (xI X, 40, .inl (fillF 40 50 (fun _ => 0))), .inl (xI X, 10, .inl (hasI)), .inl (xI X, 10, .inl (fillF 10 (-1) (fun _ => 0))), .inl (xI X, 10, .inl (fillF 10 (-1) (fun _ => 0))), .inl (xI X, 20, .inl (fun _ => 0)), .inr (1, [.ref (xB X + 16), .ref (xB X + 17), .ref (xB X + 19), .ref (xB X + 20), .ref (xB X + 21), .int 0, .int 1]), .inr (0, [.ref (xB X + 17), .ref (xB X + 18)]), .inl (xI X, 40, .inl (fillF 40 50 (fun _ => 0))), .inl (xI X, 10, .inl (hasI)), .inl (xI X, 10, .inl (fillF 10 (-1) (fun _ => 0))), .inl (xI X, 10, .inl (fillF 10 (-1) (fun _ => 0))), .inl (xI X, 20, .inl (fun _ => 0)), .inr (0, [.null, .null])]
def Mi64 (X : xC) : List va_E := [.inr (5, [.ref (xB X + 1), .ref (xB X + 8), .ref (xB X + 15), .ref (xB X + 2), .null, .null, .null, .null, .null, .int 0]), .inr (1, [.ref (xB X + 2), .ref (xB X + 3), .ref (xB X + 5), .ref (xB X + 6), .ref (xB X + 7), .int 0, .int 1]), .inr (0, [.ref (xB X + 3), .ref (xB X + 4)]), .inl (xI X, 40, .inl (fillF 40 50 (fun _ => 0))), .inl (xI X, 10, .inl (hasI)), .inl (xI X, 10, .inl (fillF 10 (-1) (fun _ => 0))), .inl (xI X, 10, .inl (fillF 10 (-1) (fun _ => 0))), .inl (xI X, 20, .inl (fun _ => 0)), .inr (1, [.ref (xB X + 9), .ref (xB X + 10), .ref (xB X + 12), .ref (xB X + 13), .ref (xB X + 14), .int 0, .int 1]), .inr (0, [.ref (xB X + 10), .ref (xB X + 11)]), .inl (xI X, 40, .inl (fillF 40 50 (fun _ => 0))), .inl (xI X, 10, .inl (hasI)), .inl (xI X, 10, .inl (fillF 10 (-1) (fun _ => 0))), .inl (xI X, 10, .inl (fillF 10 (-1) (fun _ => 0))), .inl (xI X, 20, .inl (fun _ => 0)), .inr (1, [.ref (xB X + 16), .ref (xB X + 17), .ref (xB X + 19), .ref (xB X + 20), .ref (xB X + 21), .int 0, .int 1]), .inr (0, [.ref (xB X + 17), .ref (xB X + 18)]), .inl (xI X, 40, .inl (fillF 40 50 (fun _ => 0))), .inl (xI X, 10, .inl (hasI)), .inl (xI X, 10, .inl (fillF 10 (-1) (fun _ => 0))), .inl (xI X, 10, .inl (fillF 10 (-1) (fun _ => 0))), .inl (xI X, 20, .inl (fun _ => 0)), .inr (0, [.null, .null])]
def Mi65 (X : xC) : List va_E := [.inr (5, [.ref (xB X + 1), .ref (xB X + 8), .ref (xB X + 15), .ref (xB X + 2), .null, .null, .null, .null, .null, .int 0]), .inr (1, [.ref (xB X + 2), .ref (xB X + 3), .ref (xB X + 5), .ref (xB X + 6), .ref (xB X + 7), .int 0, .int 1]), .inr (0, [.ref (xB X + 3), .ref (xB X + 4)]), .inl (xI X, 40, .inl (fillF 40 50 (fun _ => 0))), .inl (xI X, 10, .inl (hasI)), .inl (xI X, 10, .inl (fillF 10 (-1) (fun _ => 0))), .inl (xI X, 10, .inl (fillF 10 (-1) (fun _ => 0))), .inl (xI X, 20, .inl (fun _ => 0)), .inr (1, [.ref (xB X + 9), .ref (xB X + 10), .ref (xB X + 12), .ref (xB X + 13), .ref (xB X + 14), .int 0, .int 1]), .inr (0, [.ref (xB X + 10), .ref (xB X + 11)]), .inl (xI X, 40, .inl (fillF 40 50 (fun _ => 0))), .inl (xI X, 10, .inl (hasI)), .inl (xI X, 10, .inl (fillF 10 (-1) (fun _ => 0))), .inl (xI X, 10, .inl (fillF 10 (-1) (fun _ => 0))), .inl (xI X, 20, .inl (fun _ => 0)), .inr (1, [.ref (xB X + 16), .ref (xB X + 17), .ref (xB X + 19), .ref (xB X + 20), .ref (xB X + 21), .int 0, .int 1]), .inr (0, [.ref (xB X + 17), .ref (xB X + 18)]), .inl (xI X, 40, .inl (fillF 40 50 (fun _ => 0))), .inl (xI X, 10, .inl (hasI)), .inl (xI X, 10, .inl (fillF 10 (-1) (fun _ => 0))), .inl (xI X, 10, .inl (fillF 10 (-1) (fun _ => 0))), .inl (xI X, 20, .inl (fun _ => 0)), .inr (0, [.ref (xB X + 3), .ref (xB X + 23)]), .inl (xI X, 10, .inl (hasI))]
set_option maxRecDepth 20000 in
set_option maxHeartbeats 4000000 in
theorem wi_L_65 {X : xC} {d : Nat} : Sem X k_L_init (d + 1) 0 [some (.ref (xB X + 22)), some (.ref (xB X + 3))] [] (Mi64 X) none (Mi65 X) 1 10 := by
  refine ev_aload_n d_L_init_0 rfl ?_
  refine ev_objInit d_L_init_1 ml_L_3 (Nat.le_of_ble_eq_true rfl) ?_
  refine ev_aload_n d_L_init_4 rfl ?_
  refine ev_bipush d_L_init_5 ?_
  refine ev_newa (kc := 0) (ks := 0) d_L_init_7 (by decide) (N := 10) (by decide) (by decide) (c0 := 23) rfl hxI ?_
  refine ev_dup d_L_init_9 rfl ?_
  refine ev_iconst d_L_init_10 ?_
  refine ev_bipush d_L_init_11 ?_
  refine ev_iast d_L_init_13 rfl (inb_in (by decide)) ?_
  refine ev_dup d_L_init_14 rfl ?_
  refine ev_iconst d_L_init_15 ?_
  refine ev_iconst d_L_init_16 ?_
  refine ev_iast d_L_init_17 rfl (inb_in (by decide)) ?_
  refine ev_dup d_L_init_18 rfl ?_
  refine ev_iconst d_L_init_19 ?_
  refine ev_bipush d_L_init_20 ?_
  refine ev_iast d_L_init_22 rfl (inb_in (by decide)) ?_
  refine ev_dup d_L_init_23 rfl ?_
  refine ev_iconst d_L_init_24 ?_
  refine ev_iconst d_L_init_25 ?_
  refine ev_iast d_L_init_26 rfl (inb_in (by decide)) ?_
  refine ev_dup d_L_init_27 rfl ?_
  refine ev_iconst d_L_init_28 ?_
  refine ev_iconst d_L_init_29 ?_
  refine ev_iast d_L_init_30 rfl (inb_in (by decide)) ?_
  refine ev_dup d_L_init_31 rfl ?_
  refine ev_iconst d_L_init_32 ?_
  refine ev_iconst d_L_init_33 ?_
  refine ev_iast d_L_init_34 rfl (inb_in (by decide)) ?_
  refine ev_dup d_L_init_35 rfl ?_
  refine ev_bipush d_L_init_36 ?_
  refine ev_sipush d_L_init_38 ?_
  refine ev_iast d_L_init_41 rfl (inb_in (by decide)) ?_
  refine ev_dup d_L_init_42 rfl ?_
  refine ev_bipush d_L_init_43 ?_
  refine ev_iconst d_L_init_45 ?_
  refine ev_iast d_L_init_46 rfl (inb_in (by decide)) ?_
  refine ev_dup d_L_init_47 rfl ?_
  refine ev_bipush d_L_init_48 ?_
  refine ev_iconst d_L_init_50 ?_
  refine ev_iast d_L_init_51 rfl (inb_in (by decide)) ?_
  refine ev_dup d_L_init_52 rfl ?_
  refine ev_bipush d_L_init_53 ?_
  refine ev_iconst d_L_init_55 ?_
  refine ev_iast d_L_init_56 rfl (inb_in (by decide)) ?_
  refine ev_putF d_L_init_57 fl_L_9 ⟨_, rfl, rfl⟩ rfl rfl rfl rfl rfl (Nat.le_of_ble_eq_true rfl) ?_
  refine ev_aload_n d_L_init_60 rfl ?_
  refine ev_aload_n d_L_init_61 rfl ?_
  refine ev_putF d_L_init_62 fl_L_15 ⟨_, rfl, rfl⟩ rfl rfl rfl rfl rfl (Nat.le_of_ble_eq_true rfl) ?_
  exact ev_return d_L_init_65 rfl
def Mi66 (X : xC) : List va_E := [.inr (5, [.ref (xB X + 1), .ref (xB X + 8), .ref (xB X + 15), .ref (xB X + 2), .ref (xB X + 22), .null, .null, .null, .null, .int 0]), .inr (1, [.ref (xB X + 2), .ref (xB X + 3), .ref (xB X + 5), .ref (xB X + 6), .ref (xB X + 7), .int 0, .int 1]), .inr (0, [.ref (xB X + 3), .ref (xB X + 4)]), .inl (xI X, 40, .inl (fillF 40 50 (fun _ => 0))), .inl (xI X, 10, .inl (hasI)), .inl (xI X, 10, .inl (fillF 10 (-1) (fun _ => 0))), .inl (xI X, 10, .inl (fillF 10 (-1) (fun _ => 0))), .inl (xI X, 20, .inl (fun _ => 0)), .inr (1, [.ref (xB X + 9), .ref (xB X + 10), .ref (xB X + 12), .ref (xB X + 13), .ref (xB X + 14), .int 0, .int 1]), .inr (0, [.ref (xB X + 10), .ref (xB X + 11)]), .inl (xI X, 40, .inl (fillF 40 50 (fun _ => 0))), .inl (xI X, 10, .inl (hasI)), .inl (xI X, 10, .inl (fillF 10 (-1) (fun _ => 0))), .inl (xI X, 10, .inl (fillF 10 (-1) (fun _ => 0))), .inl (xI X, 20, .inl (fun _ => 0)), .inr (1, [.ref (xB X + 16), .ref (xB X + 17), .ref (xB X + 19), .ref (xB X + 20), .ref (xB X + 21), .int 0, .int 1]), .inr (0, [.ref (xB X + 17), .ref (xB X + 18)]), .inl (xI X, 40, .inl (fillF 40 50 (fun _ => 0))), .inl (xI X, 10, .inl (hasI)), .inl (xI X, 10, .inl (fillF 10 (-1) (fun _ => 0))), .inl (xI X, 10, .inl (fillF 10 (-1) (fun _ => 0))), .inl (xI X, 20, .inl (fun _ => 0)), .inr (0, [.ref (xB X + 3), .ref (xB X + 23)]), .inl (xI X, 10, .inl (hasI))]
def Mi67 (X : xC) : List va_E := [.inr (5, [.ref (xB X + 1), .ref (xB X + 8), .ref (xB X + 15), .ref (xB X + 2), .ref (xB X + 22), .null, .null, .null, .null, .int 0]), .inr (1, [.ref (xB X + 2), .ref (xB X + 3), .ref (xB X + 5), .ref (xB X + 6), .ref (xB X + 7), .int 0, .int 1]), .inr (0, [.ref (xB X + 3), .ref (xB X + 4)]), .inl (xI X, 40, .inl (fillF 40 50 (fun _ => 0))), .inl (xI X, 10, .inl (hasI)), .inl (xI X, 10, .inl (fillF 10 (-1) (fun _ => 0))), .inl (xI X, 10, .inl (fillF 10 (-1) (fun _ => 0))), .inl (xI X, 20, .inl (fun _ => 0)), .inr (1, [.ref (xB X + 9), .ref (xB X + 10), .ref (xB X + 12), .ref (xB X + 13), .ref (xB X + 14), .int 0, .int 1]), .inr (0, [.ref (xB X + 10), .ref (xB X + 11)]), .inl (xI X, 40, .inl (fillF 40 50 (fun _ => 0))), .inl (xI X, 10, .inl (hasI)), .inl (xI X, 10, .inl (fillF 10 (-1) (fun _ => 0))), .inl (xI X, 10, .inl (fillF 10 (-1) (fun _ => 0))), .inl (xI X, 20, .inl (fun _ => 0)), .inr (1, [.ref (xB X + 16), .ref (xB X + 17), .ref (xB X + 19), .ref (xB X + 20), .ref (xB X + 21), .int 0, .int 1]), .inr (0, [.ref (xB X + 17), .ref (xB X + 18)]), .inl (xI X, 40, .inl (fillF 40 50 (fun _ => 0))), .inl (xI X, 10, .inl (hasI)), .inl (xI X, 10, .inl (fillF 10 (-1) (fun _ => 0))), .inl (xI X, 10, .inl (fillF 10 (-1) (fun _ => 0))), .inl (xI X, 20, .inl (fun _ => 0)), .inr (0, [.ref (xB X + 3), .ref (xB X + 23)]), .inl (xI X, 10, .inl (hasI)), .inr (2, [.null, .int 0, .int 0, .int 0, .int 0])]
def Mi68 (X : xC) : List va_E := [.inr (5, [.ref (xB X + 1), .ref (xB X + 8), .ref (xB X + 15), .ref (xB X + 2), .ref (xB X + 22), .null, .null, .null, .null, .int 0]), .inr (1, [.ref (xB X + 2), .ref (xB X + 3), .ref (xB X + 5), .ref (xB X + 6), .ref (xB X + 7), .int 0, .int 1]), .inr (0, [.ref (xB X + 3), .ref (xB X + 4)]), .inl (xI X, 40, .inl (fillF 40 50 (fun _ => 0))), .inl (xI X, 10, .inl (hasI)), .inl (xI X, 10, .inl (fillF 10 (-1) (fun _ => 0))), .inl (xI X, 10, .inl (fillF 10 (-1) (fun _ => 0))), .inl (xI X, 20, .inl (fun _ => 0)), .inr (1, [.ref (xB X + 9), .ref (xB X + 10), .ref (xB X + 12), .ref (xB X + 13), .ref (xB X + 14), .int 0, .int 1]), .inr (0, [.ref (xB X + 10), .ref (xB X + 11)]), .inl (xI X, 40, .inl (fillF 40 50 (fun _ => 0))), .inl (xI X, 10, .inl (hasI)), .inl (xI X, 10, .inl (fillF 10 (-1) (fun _ => 0))), .inl (xI X, 10, .inl (fillF 10 (-1) (fun _ => 0))), .inl (xI X, 20, .inl (fun _ => 0)), .inr (1, [.ref (xB X + 16), .ref (xB X + 17), .ref (xB X + 19), .ref (xB X + 20), .ref (xB X + 21), .int 0, .int 1]), .inr (0, [.ref (xB X + 17), .ref (xB X + 18)]), .inl (xI X, 40, .inl (fillF 40 50 (fun _ => 0))), .inl (xI X, 10, .inl (hasI)), .inl (xI X, 10, .inl (fillF 10 (-1) (fun _ => 0))), .inl (xI X, 10, .inl (fillF 10 (-1) (fun _ => 0))), .inl (xI X, 20, .inl (fun _ => 0)), .inr (0, [.ref (xB X + 3), .ref (xB X + 23)]), .inl (xI X, 10, .inl (hasI)), .inr (2, [.null, .int 0, .int 0, .int 0, .int 0])]
def Mi69 (X : xC) : List va_E := [.inr (5, [.ref (xB X + 1), .ref (xB X + 8), .ref (xB X + 15), .ref (xB X + 2), .ref (xB X + 22), .null, .null, .null, .null, .int 0]), .inr (1, [.ref (xB X + 2), .ref (xB X + 3), .ref (xB X + 5), .ref (xB X + 6), .ref (xB X + 7), .int 0, .int 1]), .inr (0, [.ref (xB X + 3), .ref (xB X + 4)]), .inl (xI X, 40, .inl (fillF 40 50 (fun _ => 0))), .inl (xI X, 10, .inl (hasI)), .inl (xI X, 10, .inl (fillF 10 (-1) (fun _ => 0))), .inl (xI X, 10, .inl (fillF 10 (-1) (fun _ => 0))), .inl (xI X, 20, .inl (fun _ => 0)), .inr (1, [.ref (xB X + 9), .ref (xB X + 10), .ref (xB X + 12), .ref (xB X + 13), .ref (xB X + 14), .int 0, .int 1]), .inr (0, [.ref (xB X + 10), .ref (xB X + 11)]), .inl (xI X, 40, .inl (fillF 40 50 (fun _ => 0))), .inl (xI X, 10, .inl (hasI)), .inl (xI X, 10, .inl (fillF 10 (-1) (fun _ => 0))), .inl (xI X, 10, .inl (fillF 10 (-1) (fun _ => 0))), .inl (xI X, 20, .inl (fun _ => 0)), .inr (1, [.ref (xB X + 16), .ref (xB X + 17), .ref (xB X + 19), .ref (xB X + 20), .ref (xB X + 21), .int 0, .int 1]), .inr (0, [.ref (xB X + 17), .ref (xB X + 18)]), .inl (xI X, 40, .inl (fillF 40 50 (fun _ => 0))), .inl (xI X, 10, .inl (hasI)), .inl (xI X, 10, .inl (fillF 10 (-1) (fun _ => 0))), .inl (xI X, 10, .inl (fillF 10 (-1) (fun _ => 0))), .inl (xI X, 20, .inl (fun _ => 0)), .inr (0, [.ref (xB X + 3), .ref (xB X + 23)]), .inl (xI X, 10, .inl (hasI)), .inr (2, [.null, .int 0, .int 0, .int 0, .int 0]), .inl (xR X 0, 4, .inr (.inr (.inr (.inr (fun _ => none)))))]
def Mi70 (X : xC) : List va_E := [.inr (5, [.ref (xB X + 1), .ref (xB X + 8), .ref (xB X + 15), .ref (xB X + 2), .ref (xB X + 22), .null, .null, .null, .null, .int 0]), .inr (1, [.ref (xB X + 2), .ref (xB X + 3), .ref (xB X + 5), .ref (xB X + 6), .ref (xB X + 7), .int 0, .int 1]), .inr (0, [.ref (xB X + 3), .ref (xB X + 4)]), .inl (xI X, 40, .inl (fillF 40 50 (fun _ => 0))), .inl (xI X, 10, .inl (hasI)), .inl (xI X, 10, .inl (fillF 10 (-1) (fun _ => 0))), .inl (xI X, 10, .inl (fillF 10 (-1) (fun _ => 0))), .inl (xI X, 20, .inl (fun _ => 0)), .inr (1, [.ref (xB X + 9), .ref (xB X + 10), .ref (xB X + 12), .ref (xB X + 13), .ref (xB X + 14), .int 0, .int 1]), .inr (0, [.ref (xB X + 10), .ref (xB X + 11)]), .inl (xI X, 40, .inl (fillF 40 50 (fun _ => 0))), .inl (xI X, 10, .inl (hasI)), .inl (xI X, 10, .inl (fillF 10 (-1) (fun _ => 0))), .inl (xI X, 10, .inl (fillF 10 (-1) (fun _ => 0))), .inl (xI X, 20, .inl (fun _ => 0)), .inr (1, [.ref (xB X + 16), .ref (xB X + 17), .ref (xB X + 19), .ref (xB X + 20), .ref (xB X + 21), .int 0, .int 1]), .inr (0, [.ref (xB X + 17), .ref (xB X + 18)]), .inl (xI X, 40, .inl (fillF 40 50 (fun _ => 0))), .inl (xI X, 10, .inl (hasI)), .inl (xI X, 10, .inl (fillF 10 (-1) (fun _ => 0))), .inl (xI X, 10, .inl (fillF 10 (-1) (fun _ => 0))), .inl (xI X, 20, .inl (fun _ => 0)), .inr (0, [.ref (xB X + 3), .ref (xB X + 23)]), .inl (xI X, 10, .inl (hasI)), .inr (2, [.ref (xB X + 25), .int 0, .int 0, .int 0, .int 0]), .inl (xR X 0, 4, .inr (.inr (.inr (.inr (fun _ => none)))))]
def Mi71 (X : xC) : List va_E := [.inr (5, [.ref (xB X + 1), .ref (xB X + 8), .ref (xB X + 15), .ref (xB X + 2), .ref (xB X + 22), .null, .null, .null, .null, .int 0]), .inr (1, [.ref (xB X + 2), .ref (xB X + 3), .ref (xB X + 5), .ref (xB X + 6), .ref (xB X + 7), .int 0, .int 1]), .inr (0, [.ref (xB X + 3), .ref (xB X + 4)]), .inl (xI X, 40, .inl (fillF 40 50 (fun _ => 0))), .inl (xI X, 10, .inl (hasI)), .inl (xI X, 10, .inl (fillF 10 (-1) (fun _ => 0))), .inl (xI X, 10, .inl (fillF 10 (-1) (fun _ => 0))), .inl (xI X, 20, .inl (fun _ => 0)), .inr (1, [.ref (xB X + 9), .ref (xB X + 10), .ref (xB X + 12), .ref (xB X + 13), .ref (xB X + 14), .int 0, .int 1]), .inr (0, [.ref (xB X + 10), .ref (xB X + 11)]), .inl (xI X, 40, .inl (fillF 40 50 (fun _ => 0))), .inl (xI X, 10, .inl (hasI)), .inl (xI X, 10, .inl (fillF 10 (-1) (fun _ => 0))), .inl (xI X, 10, .inl (fillF 10 (-1) (fun _ => 0))), .inl (xI X, 20, .inl (fun _ => 0)), .inr (1, [.ref (xB X + 16), .ref (xB X + 17), .ref (xB X + 19), .ref (xB X + 20), .ref (xB X + 21), .int 0, .int 1]), .inr (0, [.ref (xB X + 17), .ref (xB X + 18)]), .inl (xI X, 40, .inl (fillF 40 50 (fun _ => 0))), .inl (xI X, 10, .inl (hasI)), .inl (xI X, 10, .inl (fillF 10 (-1) (fun _ => 0))), .inl (xI X, 10, .inl (fillF 10 (-1) (fun _ => 0))), .inl (xI X, 20, .inl (fun _ => 0)), .inr (0, [.ref (xB X + 3), .ref (xB X + 23)]), .inl (xI X, 10, .inl (hasI)), .inr (2, [.ref (xB X + 25), .int 0, .int 0, .int 0, .int 0]), .inl (xR X 0, 4, .inr (.inr (.inr (.inr (fun _ => none))))), .inr (0, [.null, .null])]
def Mi72 (X : xC) : List va_E := [.inr (5, [.ref (xB X + 1), .ref (xB X + 8), .ref (xB X + 15), .ref (xB X + 2), .ref (xB X + 22), .null, .null, .null, .null, .int 0]), .inr (1, [.ref (xB X + 2), .ref (xB X + 3), .ref (xB X + 5), .ref (xB X + 6), .ref (xB X + 7), .int 0, .int 1]), .inr (0, [.ref (xB X + 3), .ref (xB X + 4)]), .inl (xI X, 40, .inl (fillF 40 50 (fun _ => 0))), .inl (xI X, 10, .inl (hasI)), .inl (xI X, 10, .inl (fillF 10 (-1) (fun _ => 0))), .inl (xI X, 10, .inl (fillF 10 (-1) (fun _ => 0))), .inl (xI X, 20, .inl (fun _ => 0)), .inr (1, [.ref (xB X + 9), .ref (xB X + 10), .ref (xB X + 12), .ref (xB X + 13), .ref (xB X + 14), .int 0, .int 1]), .inr (0, [.ref (xB X + 10), .ref (xB X + 11)]), .inl (xI X, 40, .inl (fillF 40 50 (fun _ => 0))), .inl (xI X, 10, .inl (hasI)), .inl (xI X, 10, .inl (fillF 10 (-1) (fun _ => 0))), .inl (xI X, 10, .inl (fillF 10 (-1) (fun _ => 0))), .inl (xI X, 20, .inl (fun _ => 0)), .inr (1, [.ref (xB X + 16), .ref (xB X + 17), .ref (xB X + 19), .ref (xB X + 20), .ref (xB X + 21), .int 0, .int 1]), .inr (0, [.ref (xB X + 17), .ref (xB X + 18)]), .inl (xI X, 40, .inl (fillF 40 50 (fun _ => 0))), .inl (xI X, 10, .inl (hasI)), .inl (xI X, 10, .inl (fillF 10 (-1) (fun _ => 0))), .inl (xI X, 10, .inl (fillF 10 (-1) (fun _ => 0))), .inl (xI X, 20, .inl (fun _ => 0)), .inr (0, [.ref (xB X + 3), .ref (xB X + 23)]), .inl (xI X, 10, .inl (hasI)), .inr (2, [.ref (xB X + 25), .int 0, .int 0, .int 0, .int 0]), .inl (xR X 0, 4, .inr (.inr (.inr (.inr (fun _ => none))))), .inr (0, [.null, .null])]
def Mi73 (X : xC) : List va_E := [.inr (5, [.ref (xB X + 1), .ref (xB X + 8), .ref (xB X + 15), .ref (xB X + 2), .ref (xB X + 22), .null, .null, .null, .null, .int 0]), .inr (1, [.ref (xB X + 2), .ref (xB X + 3), .ref (xB X + 5), .ref (xB X + 6), .ref (xB X + 7), .int 0, .int 1]), .inr (0, [.ref (xB X + 3), .ref (xB X + 4)]), .inl (xI X, 40, .inl (fillF 40 50 (fun _ => 0))), .inl (xI X, 10, .inl (hasI)), .inl (xI X, 10, .inl (fillF 10 (-1) (fun _ => 0))), .inl (xI X, 10, .inl (fillF 10 (-1) (fun _ => 0))), .inl (xI X, 20, .inl (fun _ => 0)), .inr (1, [.ref (xB X + 9), .ref (xB X + 10), .ref (xB X + 12), .ref (xB X + 13), .ref (xB X + 14), .int 0, .int 1]), .inr (0, [.ref (xB X + 10), .ref (xB X + 11)]), .inl (xI X, 40, .inl (fillF 40 50 (fun _ => 0))), .inl (xI X, 10, .inl (hasI)), .inl (xI X, 10, .inl (fillF 10 (-1) (fun _ => 0))), .inl (xI X, 10, .inl (fillF 10 (-1) (fun _ => 0))), .inl (xI X, 20, .inl (fun _ => 0)), .inr (1, [.ref (xB X + 16), .ref (xB X + 17), .ref (xB X + 19), .ref (xB X + 20), .ref (xB X + 21), .int 0, .int 1]), .inr (0, [.ref (xB X + 17), .ref (xB X + 18)]), .inl (xI X, 40, .inl (fillF 40 50 (fun _ => 0))), .inl (xI X, 10, .inl (hasI)), .inl (xI X, 10, .inl (fillF 10 (-1) (fun _ => 0))), .inl (xI X, 10, .inl (fillF 10 (-1) (fun _ => 0))), .inl (xI X, 20, .inl (fun _ => 0)), .inr (0, [.ref (xB X + 3), .ref (xB X + 23)]), .inl (xI X, 10, .inl (hasI)), .inr (2, [.ref (xB X + 25), .int 0, .int 0, .int 0, .int 0]), .inl (xR X 0, 4, .inr (.inr (.inr (.inr (fun _ => none))))), .inr (0, [.ref (xB X + 3), .ref (xB X + 27)]), .inl (xI X, 10, .inl (hasI))]
set_option maxRecDepth 20000 in
set_option maxHeartbeats 4000000 in
theorem wi_L_73 {X : xC} {d : Nat} : Sem X k_L_init (d + 1) 0 [some (.ref (xB X + 26)), some (.ref (xB X + 3))] [] (Mi72 X) none (Mi73 X) 1 10 := by
  refine ev_aload_n d_L_init_0 rfl ?_
  refine ev_objInit d_L_init_1 ml_L_3 (Nat.le_of_ble_eq_true rfl) ?_
  refine ev_aload_n d_L_init_4 rfl ?_
  refine ev_bipush d_L_init_5 ?_
  refine ev_newa (kc := 0) (ks := 0) d_L_init_7 (by decide) (N := 10) (by decide) (by decide) (c0 := 27) rfl hxI ?_
  refine ev_dup d_L_init_9 rfl ?_
  refine ev_iconst d_L_init_10 ?_
  refine ev_bipush d_L_init_11 ?_
  refine ev_iast d_L_init_13 rfl (inb_in (by decide)) ?_
  refine ev_dup d_L_init_14 rfl ?_
  refine ev_iconst d_L_init_15 ?_
  refine ev_iconst d_L_init_16 ?_
  refine ev_iast d_L_init_17 rfl (inb_in (by decide)) ?_
  refine ev_dup d_L_init_18 rfl ?_
  refine ev_iconst d_L_init_19 ?_
  refine ev_bipush d_L_init_20 ?_
  refine ev_iast d_L_init_22 rfl (inb_in (by decide)) ?_
  refine ev_dup d_L_init_23 rfl ?_
  refine ev_iconst d_L_init_24 ?_
  refine ev_iconst d_L_init_25 ?_
  refine ev_iast d_L_init_26 rfl (inb_in (by decide)) ?_
  refine ev_dup d_L_init_27 rfl ?_
  refine ev_iconst d_L_init_28 ?_
  refine ev_iconst d_L_init_29 ?_
  refine ev_iast d_L_init_30 rfl (inb_in (by decide)) ?_
  refine ev_dup d_L_init_31 rfl ?_
  refine ev_iconst d_L_init_32 ?_
  refine ev_iconst d_L_init_33 ?_
  refine ev_iast d_L_init_34 rfl (inb_in (by decide)) ?_
  refine ev_dup d_L_init_35 rfl ?_
  refine ev_bipush d_L_init_36 ?_
  refine ev_sipush d_L_init_38 ?_
  refine ev_iast d_L_init_41 rfl (inb_in (by decide)) ?_
  refine ev_dup d_L_init_42 rfl ?_
  refine ev_bipush d_L_init_43 ?_
  refine ev_iconst d_L_init_45 ?_
  refine ev_iast d_L_init_46 rfl (inb_in (by decide)) ?_
  refine ev_dup d_L_init_47 rfl ?_
  refine ev_bipush d_L_init_48 ?_
  refine ev_iconst d_L_init_50 ?_
  refine ev_iast d_L_init_51 rfl (inb_in (by decide)) ?_
  refine ev_dup d_L_init_52 rfl ?_
  refine ev_bipush d_L_init_53 ?_
  refine ev_iconst d_L_init_55 ?_
  refine ev_iast d_L_init_56 rfl (inb_in (by decide)) ?_
  refine ev_putF d_L_init_57 fl_L_9 ⟨_, rfl, rfl⟩ rfl rfl rfl rfl rfl (Nat.le_of_ble_eq_true rfl) ?_
  refine ev_aload_n d_L_init_60 rfl ?_
  refine ev_aload_n d_L_init_61 rfl ?_
  refine ev_putF d_L_init_62 fl_L_15 ⟨_, rfl, rfl⟩ rfl rfl rfl rfl rfl (Nat.le_of_ble_eq_true rfl) ?_
  exact ev_return d_L_init_65 rfl
def Mi74 (X : xC) : List va_E := [.inr (5, [.ref (xB X + 1), .ref (xB X + 8), .ref (xB X + 15), .ref (xB X + 2), .ref (xB X + 22), .null, .null, .null, .null, .int 0]), .inr (1, [.ref (xB X + 2), .ref (xB X + 3), .ref (xB X + 5), .ref (xB X + 6), .ref (xB X + 7), .int 0, .int 1]), .inr (0, [.ref (xB X + 3), .ref (xB X + 4)]), .inl (xI X, 40, .inl (fillF 40 50 (fun _ => 0))), .inl (xI X, 10, .inl (hasI)), .inl (xI X, 10, .inl (fillF 10 (-1) (fun _ => 0))), .inl (xI X, 10, .inl (fillF 10 (-1) (fun _ => 0))), .inl (xI X, 20, .inl (fun _ => 0)), .inr (1, [.ref (xB X + 9), .ref (xB X + 10), .ref (xB X + 12), .ref (xB X + 13), .ref (xB X + 14), .int 0, .int 1]), .inr (0, [.ref (xB X + 10), .ref (xB X + 11)]), .inl (xI X, 40, .inl (fillF 40 50 (fun _ => 0))), .inl (xI X, 10, .inl (hasI)), .inl (xI X, 10, .inl (fillF 10 (-1) (fun _ => 0))), .inl (xI X, 10, .inl (fillF 10 (-1) (fun _ => 0))), .inl (xI X, 20, .inl (fun _ => 0)), .inr (1, [.ref (xB X + 16), .ref (xB X + 17), .ref (xB X + 19), .ref (xB X + 20), .ref (xB X + 21), .int 0, .int 1]), .inr (0, [.ref (xB X + 17), .ref (xB X + 18)]), .inl (xI X, 40, .inl (fillF 40 50 (fun _ => 0))), .inl (xI X, 10, .inl (hasI)), .inl (xI X, 10, .inl (fillF 10 (-1) (fun _ => 0))), .inl (xI X, 10, .inl (fillF 10 (-1) (fun _ => 0))), .inl (xI X, 20, .inl (fun _ => 0)), .inr (0, [.ref (xB X + 3), .ref (xB X + 23)]), .inl (xI X, 10, .inl (hasI)), .inr (2, [.ref (xB X + 25), .int 0, .int 0, .int 0, .int 0]), .inl (xR X 0, 4, .inr (.inr (.inr (.inr (va_up (fun _ => none) 0 (some (xB X + 26))))))), .inr (0, [.ref (xB X + 3), .ref (xB X + 27)]), .inl (xI X, 10, .inl (hasI))]
def Mi75 (X : xC) : List va_E := [.inr (5, [.ref (xB X + 1), .ref (xB X + 8), .ref (xB X + 15), .ref (xB X + 2), .ref (xB X + 22), .null, .null, .null, .null, .int 0]), .inr (1, [.ref (xB X + 2), .ref (xB X + 3), .ref (xB X + 5), .ref (xB X + 6), .ref (xB X + 7), .int 0, .int 1]), .inr (0, [.ref (xB X + 3), .ref (xB X + 4)]), .inl (xI X, 40, .inl (fillF 40 50 (fun _ => 0))), .inl (xI X, 10, .inl (hasI)), .inl (xI X, 10, .inl (fillF 10 (-1) (fun _ => 0))), .inl (xI X, 10, .inl (fillF 10 (-1) (fun _ => 0))), .inl (xI X, 20, .inl (fun _ => 0)), .inr (1, [.ref (xB X + 9), .ref (xB X + 10), .ref (xB X + 12), .ref (xB X + 13), .ref (xB X + 14), .int 0, .int 1]), .inr (0, [.ref (xB X + 10), .ref (xB X + 11)]), .inl (xI X, 40, .inl (fillF 40 50 (fun _ => 0))), .inl (xI X, 10, .inl (hasI)), .inl (xI X, 10, .inl (fillF 10 (-1) (fun _ => 0))), .inl (xI X, 10, .inl (fillF 10 (-1) (fun _ => 0))), .inl (xI X, 20, .inl (fun _ => 0)), .inr (1, [.ref (xB X + 16), .ref (xB X + 17), .ref (xB X + 19), .ref (xB X + 20), .ref (xB X + 21), .int 0, .int 1]), .inr (0, [.ref (xB X + 17), .ref (xB X + 18)]), .inl (xI X, 40, .inl (fillF 40 50 (fun _ => 0))), .inl (xI X, 10, .inl (hasI)), .inl (xI X, 10, .inl (fillF 10 (-1) (fun _ => 0))), .inl (xI X, 10, .inl (fillF 10 (-1) (fun _ => 0))), .inl (xI X, 20, .inl (fun _ => 0)), .inr (0, [.ref (xB X + 3), .ref (xB X + 23)]), .inl (xI X, 10, .inl (hasI)), .inr (2, [.ref (xB X + 25), .int 0, .int 0, .int 0, .int 0]), .inl (xR X 0, 4, .inr (.inr (.inr (.inr (va_up (fun _ => none) 0 (some (xB X + 26))))))), .inr (0, [.ref (xB X + 3), .ref (xB X + 27)]), .inl (xI X, 10, .inl (hasI)), .inr (0, [.null, .null])]
def Mi76 (X : xC) : List va_E := [.inr (5, [.ref (xB X + 1), .ref (xB X + 8), .ref (xB X + 15), .ref (xB X + 2), .ref (xB X + 22), .null, .null, .null, .null, .int 0]), .inr (1, [.ref (xB X + 2), .ref (xB X + 3), .ref (xB X + 5), .ref (xB X + 6), .ref (xB X + 7), .int 0, .int 1]), .inr (0, [.ref (xB X + 3), .ref (xB X + 4)]), .inl (xI X, 40, .inl (fillF 40 50 (fun _ => 0))), .inl (xI X, 10, .inl (hasI)), .inl (xI X, 10, .inl (fillF 10 (-1) (fun _ => 0))), .inl (xI X, 10, .inl (fillF 10 (-1) (fun _ => 0))), .inl (xI X, 20, .inl (fun _ => 0)), .inr (1, [.ref (xB X + 9), .ref (xB X + 10), .ref (xB X + 12), .ref (xB X + 13), .ref (xB X + 14), .int 0, .int 1]), .inr (0, [.ref (xB X + 10), .ref (xB X + 11)]), .inl (xI X, 40, .inl (fillF 40 50 (fun _ => 0))), .inl (xI X, 10, .inl (hasI)), .inl (xI X, 10, .inl (fillF 10 (-1) (fun _ => 0))), .inl (xI X, 10, .inl (fillF 10 (-1) (fun _ => 0))), .inl (xI X, 20, .inl (fun _ => 0)), .inr (1, [.ref (xB X + 16), .ref (xB X + 17), .ref (xB X + 19), .ref (xB X + 20), .ref (xB X + 21), .int 0, .int 1]), .inr (0, [.ref (xB X + 17), .ref (xB X + 18)]), .inl (xI X, 40, .inl (fillF 40 50 (fun _ => 0))), .inl (xI X, 10, .inl (hasI)), .inl (xI X, 10, .inl (fillF 10 (-1) (fun _ => 0))), .inl (xI X, 10, .inl (fillF 10 (-1) (fun _ => 0))), .inl (xI X, 20, .inl (fun _ => 0)), .inr (0, [.ref (xB X + 3), .ref (xB X + 23)]), .inl (xI X, 10, .inl (hasI)), .inr (2, [.ref (xB X + 25), .int 0, .int 0, .int 0, .int 0]), .inl (xR X 0, 4, .inr (.inr (.inr (.inr (va_up (fun _ => none) 0 (some (xB X + 26))))))), .inr (0, [.ref (xB X + 3), .ref (xB X + 27)]), .inl (xI X, 10, .inl (hasI)), .inr (0, [.null, .null])]
def Mi77 (X : xC) : List va_E := [.inr (5, [.ref (xB X + 1), .ref (xB X + 8), .ref (xB X + 15), .ref (xB X + 2), .ref (xB X + 22), .null, .null, .null, .null, .int 0]), .inr (1, [.ref (xB X + 2), .ref (xB X + 3), .ref (xB X + 5), .ref (xB X + 6), .ref (xB X + 7), .int 0, .int 1]), .inr (0, [.ref (xB X + 3), .ref (xB X + 4)]), .inl (xI X, 40, .inl (fillF 40 50 (fun _ => 0))), .inl (xI X, 10, .inl (hasI)), .inl (xI X, 10, .inl (fillF 10 (-1) (fun _ => 0))), .inl (xI X, 10, .inl (fillF 10 (-1) (fun _ => 0))), .inl (xI X, 20, .inl (fun _ => 0)), .inr (1, [.ref (xB X + 9), .ref (xB X + 10), .ref (xB X + 12), .ref (xB X + 13), .ref (xB X + 14), .int 0, .int 1]), .inr (0, [.ref (xB X + 10), .ref (xB X + 11)]), .inl (xI X, 40, .inl (fillF 40 50 (fun _ => 0))), .inl (xI X, 10, .inl (hasI)), .inl (xI X, 10, .inl (fillF 10 (-1) (fun _ => 0))), .inl (xI X, 10, .inl (fillF 10 (-1) (fun _ => 0))), .inl (xI X, 20, .inl (fun _ => 0)), .inr (1, [.ref (xB X + 16), .ref (xB X + 17), .ref (xB X + 19), .ref (xB X + 20), .ref (xB X + 21), .int 0, .int 1]), .inr (0, [.ref (xB X + 17), .ref (xB X + 18)]), .inl (xI X, 40, .inl (fillF 40 50 (fun _ => 0))), .inl (xI X, 10, .inl (hasI)), .inl (xI X, 10, .inl (fillF 10 (-1) (fun _ => 0))), .inl (xI X, 10, .inl (fillF 10 (-1) (fun _ => 0))), .inl (xI X, 20, .inl (fun _ => 0)), .inr (0, [.ref (xB X + 3), .ref (xB X + 23)]), .inl (xI X, 10, .inl (hasI)), .inr (2, [.ref (xB X + 25), .int 0, .int 0, .int 0, .int 0]), .inl (xR X 0, 4, .inr (.inr (.inr (.inr (va_up (fun _ => none) 0 (some (xB X + 26))))))), .inr (0, [.ref (xB X + 3), .ref (xB X + 27)]), .inl (xI X, 10, .inl (hasI)), .inr (0, [.ref (xB X + 3), .ref (xB X + 29)]), .inl (xI X, 10, .inl (hasI))]
set_option maxRecDepth 20000 in
set_option maxHeartbeats 4000000 in
theorem wi_L_77 {X : xC} {d : Nat} : Sem X k_L_init (d + 1) 0 [some (.ref (xB X + 28)), some (.ref (xB X + 3))] [] (Mi76 X) none (Mi77 X) 1 10 := by
  refine ev_aload_n d_L_init_0 rfl ?_
  refine ev_objInit d_L_init_1 ml_L_3 (Nat.le_of_ble_eq_true rfl) ?_
  refine ev_aload_n d_L_init_4 rfl ?_
  refine ev_bipush d_L_init_5 ?_
  refine ev_newa (kc := 0) (ks := 0) d_L_init_7 (by decide) (N := 10) (by decide) (by decide) (c0 := 29) rfl hxI ?_
  refine ev_dup d_L_init_9 rfl ?_
  refine ev_iconst d_L_init_10 ?_
  refine ev_bipush d_L_init_11 ?_
  refine ev_iast d_L_init_13 rfl (inb_in (by decide)) ?_
  refine ev_dup d_L_init_14 rfl ?_
  refine ev_iconst d_L_init_15 ?_
  refine ev_iconst d_L_init_16 ?_
  refine ev_iast d_L_init_17 rfl (inb_in (by decide)) ?_
  refine ev_dup d_L_init_18 rfl ?_
  refine ev_iconst d_L_init_19 ?_
  refine ev_bipush d_L_init_20 ?_
  refine ev_iast d_L_init_22 rfl (inb_in (by decide)) ?_
  refine ev_dup d_L_init_23 rfl ?_
  refine ev_iconst d_L_init_24 ?_
  refine ev_iconst d_L_init_25 ?_
  refine ev_iast d_L_init_26 rfl (inb_in (by decide)) ?_
  refine ev_dup d_L_init_27 rfl ?_
  refine ev_iconst d_L_init_28 ?_
  refine ev_iconst d_L_init_29 ?_
  refine ev_iast d_L_init_30 rfl (inb_in (by decide)) ?_
  refine ev_dup d_L_init_31 rfl ?_
  refine ev_iconst d_L_init_32 ?_
  refine ev_iconst d_L_init_33 ?_
  refine ev_iast d_L_init_34 rfl (inb_in (by decide)) ?_
  refine ev_dup d_L_init_35 rfl ?_
  refine ev_bipush d_L_init_36 ?_
  refine ev_sipush d_L_init_38 ?_
  refine ev_iast d_L_init_41 rfl (inb_in (by decide)) ?_
  refine ev_dup d_L_init_42 rfl ?_
  refine ev_bipush d_L_init_43 ?_
  refine ev_iconst d_L_init_45 ?_
  refine ev_iast d_L_init_46 rfl (inb_in (by decide)) ?_
  refine ev_dup d_L_init_47 rfl ?_
  refine ev_bipush d_L_init_48 ?_
  refine ev_iconst d_L_init_50 ?_
  refine ev_iast d_L_init_51 rfl (inb_in (by decide)) ?_
  refine ev_dup d_L_init_52 rfl ?_
  refine ev_bipush d_L_init_53 ?_
  refine ev_iconst d_L_init_55 ?_
  refine ev_iast d_L_init_56 rfl (inb_in (by decide)) ?_
  refine ev_putF d_L_init_57 fl_L_9 ⟨_, rfl, rfl⟩ rfl rfl rfl rfl rfl (Nat.le_of_ble_eq_true rfl) ?_
  refine ev_aload_n d_L_init_60 rfl ?_
  refine ev_aload_n d_L_init_61 rfl ?_
  refine ev_putF d_L_init_62 fl_L_15 ⟨_, rfl, rfl⟩ rfl rfl rfl rfl rfl (Nat.le_of_ble_eq_true rfl) ?_
  exact ev_return d_L_init_65 rfl
def Mi78 (X : xC) : List va_E := [.inr (5, [.ref (xB X + 1), .ref (xB X + 8), .ref (xB X + 15), .ref (xB X + 2), .ref (xB X + 22), .null, .null, .null, .null, .int 0]), .inr (1, [.ref (xB X + 2), .ref (xB X + 3), .ref (xB X + 5), .ref (xB X + 6), .ref (xB X + 7), .int 0, .int 1]), .inr (0, [.ref (xB X + 3), .ref (xB X + 4)]), .inl (xI X, 40, .inl (fillF 40 50 (fun _ => 0))), .inl (xI X, 10, .inl (hasI)), .inl (xI X, 10, .inl (fillF 10 (-1) (fun _ => 0))), .inl (xI X, 10, .inl (fillF 10 (-1) (fun _ => 0))), .inl (xI X, 20, .inl (fun _ => 0)), .inr (1, [.ref (xB X + 9), .ref (xB X + 10), .ref (xB X + 12), .ref (xB X + 13), .ref (xB X + 14), .int 0, .int 1]), .inr (0, [.ref (xB X + 10), .ref (xB X + 11)]), .inl (xI X, 40, .inl (fillF 40 50 (fun _ => 0))), .inl (xI X, 10, .inl (hasI)), .inl (xI X, 10, .inl (fillF 10 (-1) (fun _ => 0))), .inl (xI X, 10, .inl (fillF 10 (-1) (fun _ => 0))), .inl (xI X, 20, .inl (fun _ => 0)), .inr (1, [.ref (xB X + 16), .ref (xB X + 17), .ref (xB X + 19), .ref (xB X + 20), .ref (xB X + 21), .int 0, .int 1]), .inr (0, [.ref (xB X + 17), .ref (xB X + 18)]), .inl (xI X, 40, .inl (fillF 40 50 (fun _ => 0))), .inl (xI X, 10, .inl (hasI)), .inl (xI X, 10, .inl (fillF 10 (-1) (fun _ => 0))), .inl (xI X, 10, .inl (fillF 10 (-1) (fun _ => 0))), .inl (xI X, 20, .inl (fun _ => 0)), .inr (0, [.ref (xB X + 3), .ref (xB X + 23)]), .inl (xI X, 10, .inl (hasI)), .inr (2, [.ref (xB X + 25), .int 0, .int 0, .int 0, .int 0]), .inl (xR X 0, 4, .inr (.inr (.inr (.inr (va_up (va_up (fun _ => none) 0 (some (xB X + 26))) 1 (some (xB X + 28))))))), .inr (0, [.ref (xB X + 3), .ref (xB X + 27)]), .inl (xI X, 10, .inl (hasI)), .inr (0, [.ref (xB X + 3), .ref (xB X + 29)]), .inl (xI X, 10, .inl (hasI))]
def Mi79 (X : xC) : List va_E := [.inr (5, [.ref (xB X + 1), .ref (xB X + 8), .ref (xB X + 15), .ref (xB X + 2), .ref (xB X + 22), .null, .null, .null, .null, .int 0]), .inr (1, [.ref (xB X + 2), .ref (xB X + 3), .ref (xB X + 5), .ref (xB X + 6), .ref (xB X + 7), .int 0, .int 1]), .inr (0, [.ref (xB X + 3), .ref (xB X + 4)]), .inl (xI X, 40, .inl (fillF 40 50 (fun _ => 0))), .inl (xI X, 10, .inl (hasI)), .inl (xI X, 10, .inl (fillF 10 (-1) (fun _ => 0))), .inl (xI X, 10, .inl (fillF 10 (-1) (fun _ => 0))), .inl (xI X, 20, .inl (fun _ => 0)), .inr (1, [.ref (xB X + 9), .ref (xB X + 10), .ref (xB X + 12), .ref (xB X + 13), .ref (xB X + 14), .int 0, .int 1]), .inr (0, [.ref (xB X + 10), .ref (xB X + 11)]), .inl (xI X, 40, .inl (fillF 40 50 (fun _ => 0))), .inl (xI X, 10, .inl (hasI)), .inl (xI X, 10, .inl (fillF 10 (-1) (fun _ => 0))), .inl (xI X, 10, .inl (fillF 10 (-1) (fun _ => 0))), .inl (xI X, 20, .inl (fun _ => 0)), .inr (1, [.ref (xB X + 16), .ref (xB X + 17), .ref (xB X + 19), .ref (xB X + 20), .ref (xB X + 21), .int 0, .int 1]), .inr (0, [.ref (xB X + 17), .ref (xB X + 18)]), .inl (xI X, 40, .inl (fillF 40 50 (fun _ => 0))), .inl (xI X, 10, .inl (hasI)), .inl (xI X, 10, .inl (fillF 10 (-1) (fun _ => 0))), .inl (xI X, 10, .inl (fillF 10 (-1) (fun _ => 0))), .inl (xI X, 20, .inl (fun _ => 0)), .inr (0, [.ref (xB X + 3), .ref (xB X + 23)]), .inl (xI X, 10, .inl (hasI)), .inr (2, [.ref (xB X + 25), .int 0, .int 0, .int 0, .int 0]), .inl (xR X 0, 4, .inr (.inr (.inr (.inr (va_up (va_up (fun _ => none) 0 (some (xB X + 26))) 1 (some (xB X + 28))))))), .inr (0, [.ref (xB X + 3), .ref (xB X + 27)]), .inl (xI X, 10, .inl (hasI)), .inr (0, [.ref (xB X + 3), .ref (xB X + 29)]), .inl (xI X, 10, .inl (hasI)), .inr (0, [.null, .null])]
def Mi80 (X : xC) : List va_E := [.inr (5, [.ref (xB X + 1), .ref (xB X + 8), .ref (xB X + 15), .ref (xB X + 2), .ref (xB X + 22), .null, .null, .null, .null, .int 0]), .inr (1, [.ref (xB X + 2), .ref (xB X + 3), .ref (xB X + 5), .ref (xB X + 6), .ref (xB X + 7), .int 0, .int 1]), .inr (0, [.ref (xB X + 3), .ref (xB X + 4)]), .inl (xI X, 40, .inl (fillF 40 50 (fun _ => 0))), .inl (xI X, 10, .inl (hasI)), .inl (xI X, 10, .inl (fillF 10 (-1) (fun _ => 0))), .inl (xI X, 10, .inl (fillF 10 (-1) (fun _ => 0))), .inl (xI X, 20, .inl (fun _ => 0)), .inr (1, [.ref (xB X + 9), .ref (xB X + 10), .ref (xB X + 12), .ref (xB X + 13), .ref (xB X + 14), .int 0, .int 1]), .inr (0, [.ref (xB X + 10), .ref (xB X + 11)]), .inl (xI X, 40, .inl (fillF 40 50 (fun _ => 0))), .inl (xI X, 10, .inl (hasI)), .inl (xI X, 10, .inl (fillF 10 (-1) (fun _ => 0))), .inl (xI X, 10, .inl (fillF 10 (-1) (fun _ => 0))), .inl (xI X, 20, .inl (fun _ => 0)), .inr (1, [.ref (xB X + 16), .ref (xB X + 17), .ref (xB X + 19), .ref (xB X + 20), .ref (xB X + 21), .int 0, .int 1]), .inr (0, [.ref (xB X + 17), .ref (xB X + 18)]), .inl (xI X, 40, .inl (fillF 40 50 (fun _ => 0))), .inl (xI X, 10, .inl (hasI)), .inl (xI X, 10, .inl (fillF 10 (-1) (fun _ => 0))), .inl (xI X, 10, .inl (fillF 10 (-1) (fun _ => 0))), .inl (xI X, 20, .inl (fun _ => 0)), .inr (0, [.ref (xB X + 3), .ref (xB X + 23)]), .inl (xI X, 10, .inl (hasI)), .inr (2, [.ref (xB X + 25), .int 0, .int 0, .int 0, .int 0]), .inl (xR X 0, 4, .inr (.inr (.inr (.inr (va_up (va_up (fun _ => none) 0 (some (xB X + 26))) 1 (some (xB X + 28))))))), .inr (0, [.ref (xB X + 3), .ref (xB X + 27)]), .inl (xI X, 10, .inl (hasI)), .inr (0, [.ref (xB X + 3), .ref (xB X + 29)]), .inl (xI X, 10, .inl (hasI)), .inr (0, [.null, .null])]
def Mi81 (X : xC) : List va_E := [.inr (5, [.ref (xB X + 1), .ref (xB X + 8), .ref (xB X + 15), .ref (xB X + 2), .ref (xB X + 22), .null, .null, .null, .null, .int 0]), .inr (1, [.ref (xB X + 2), .ref (xB X + 3), .ref (xB X + 5), .ref (xB X + 6), .ref (xB X + 7), .int 0, .int 1]), .inr (0, [.ref (xB X + 3), .ref (xB X + 4)]), .inl (xI X, 40, .inl (fillF 40 50 (fun _ => 0))), .inl (xI X, 10, .inl (hasI)), .inl (xI X, 10, .inl (fillF 10 (-1) (fun _ => 0))), .inl (xI X, 10, .inl (fillF 10 (-1) (fun _ => 0))), .inl (xI X, 20, .inl (fun _ => 0)), .inr (1, [.ref (xB X + 9), .ref (xB X + 10), .ref (xB X + 12), .ref (xB X + 13), .ref (xB X + 14), .int 0, .int 1]), .inr (0, [.ref (xB X + 10), .ref (xB X + 11)]), .inl (xI X, 40, .inl (fillF 40 50 (fun _ => 0))), .inl (xI X, 10, .inl (hasI)), .inl (xI X, 10, .inl (fillF 10 (-1) (fun _ => 0))), .inl (xI X, 10, .inl (fillF 10 (-1) (fun _ => 0))), .inl (xI X, 20, .inl (fun _ => 0)), .inr (1, [.ref (xB X + 16), .ref (xB X + 17), .ref (xB X + 19), .ref (xB X + 20), .ref (xB X + 21), .int 0, .int 1]), .inr (0, [.ref (xB X + 17), .ref (xB X + 18)]), .inl (xI X, 40, .inl (fillF 40 50 (fun _ => 0))), .inl (xI X, 10, .inl (hasI)), .inl (xI X, 10, .inl (fillF 10 (-1) (fun _ => 0))), .inl (xI X, 10, .inl (fillF 10 (-1) (fun _ => 0))), .inl (xI X, 20, .inl (fun _ => 0)), .inr (0, [.ref (xB X + 3), .ref (xB X + 23)]), .inl (xI X, 10, .inl (hasI)), .inr (2, [.ref (xB X + 25), .int 0, .int 0, .int 0, .int 0]), .inl (xR X 0, 4, .inr (.inr (.inr (.inr (va_up (va_up (fun _ => none) 0 (some (xB X + 26))) 1 (some (xB X + 28))))))), .inr (0, [.ref (xB X + 3), .ref (xB X + 27)]), .inl (xI X, 10, .inl (hasI)), .inr (0, [.ref (xB X + 3), .ref (xB X + 29)]), .inl (xI X, 10, .inl (hasI)), .inr (0, [.ref (xB X + 3), .ref (xB X + 31)]), .inl (xI X, 10, .inl (hasI))]
set_option maxRecDepth 20000 in
set_option maxHeartbeats 4000000 in
theorem wi_L_81 {X : xC} {d : Nat} : Sem X k_L_init (d + 1) 0 [some (.ref (xB X + 30)), some (.ref (xB X + 3))] [] (Mi80 X) none (Mi81 X) 1 10 := by
  refine ev_aload_n d_L_init_0 rfl ?_
  refine ev_objInit d_L_init_1 ml_L_3 (Nat.le_of_ble_eq_true rfl) ?_
  refine ev_aload_n d_L_init_4 rfl ?_
  refine ev_bipush d_L_init_5 ?_
  refine ev_newa (kc := 0) (ks := 0) d_L_init_7 (by decide) (N := 10) (by decide) (by decide) (c0 := 31) rfl hxI ?_
  refine ev_dup d_L_init_9 rfl ?_
  refine ev_iconst d_L_init_10 ?_
  refine ev_bipush d_L_init_11 ?_
  refine ev_iast d_L_init_13 rfl (inb_in (by decide)) ?_
  refine ev_dup d_L_init_14 rfl ?_
  refine ev_iconst d_L_init_15 ?_
  refine ev_iconst d_L_init_16 ?_
  refine ev_iast d_L_init_17 rfl (inb_in (by decide)) ?_
  refine ev_dup d_L_init_18 rfl ?_
  refine ev_iconst d_L_init_19 ?_
  refine ev_bipush d_L_init_20 ?_
  refine ev_iast d_L_init_22 rfl (inb_in (by decide)) ?_
  refine ev_dup d_L_init_23 rfl ?_
  refine ev_iconst d_L_init_24 ?_
  refine ev_iconst d_L_init_25 ?_
  refine ev_iast d_L_init_26 rfl (inb_in (by decide)) ?_
  refine ev_dup d_L_init_27 rfl ?_
  refine ev_iconst d_L_init_28 ?_
  refine ev_iconst d_L_init_29 ?_
  refine ev_iast d_L_init_30 rfl (inb_in (by decide)) ?_
  refine ev_dup d_L_init_31 rfl ?_
  refine ev_iconst d_L_init_32 ?_
  refine ev_iconst d_L_init_33 ?_
  refine ev_iast d_L_init_34 rfl (inb_in (by decide)) ?_
  refine ev_dup d_L_init_35 rfl ?_
  refine ev_bipush d_L_init_36 ?_
  refine ev_sipush d_L_init_38 ?_
  refine ev_iast d_L_init_41 rfl (inb_in (by decide)) ?_
  refine ev_dup d_L_init_42 rfl ?_
  refine ev_bipush d_L_init_43 ?_
  refine ev_iconst d_L_init_45 ?_
  refine ev_iast d_L_init_46 rfl (inb_in (by decide)) ?_
  refine ev_dup d_L_init_47 rfl ?_
  refine ev_bipush d_L_init_48 ?_
  refine ev_iconst d_L_init_50 ?_
  refine ev_iast d_L_init_51 rfl (inb_in (by decide)) ?_
  refine ev_dup d_L_init_52 rfl ?_
  refine ev_bipush d_L_init_53 ?_
  refine ev_iconst d_L_init_55 ?_
  refine ev_iast d_L_init_56 rfl (inb_in (by decide)) ?_
  refine ev_putF d_L_init_57 fl_L_9 ⟨_, rfl, rfl⟩ rfl rfl rfl rfl rfl (Nat.le_of_ble_eq_true rfl) ?_
  refine ev_aload_n d_L_init_60 rfl ?_
  refine ev_aload_n d_L_init_61 rfl ?_
  refine ev_putF d_L_init_62 fl_L_15 ⟨_, rfl, rfl⟩ rfl rfl rfl rfl rfl (Nat.le_of_ble_eq_true rfl) ?_
  exact ev_return d_L_init_65 rfl
def Mi82 (X : xC) : List va_E := [.inr (5, [.ref (xB X + 1), .ref (xB X + 8), .ref (xB X + 15), .ref (xB X + 2), .ref (xB X + 22), .null, .null, .null, .null, .int 0]), .inr (1, [.ref (xB X + 2), .ref (xB X + 3), .ref (xB X + 5), .ref (xB X + 6), .ref (xB X + 7), .int 0, .int 1]), .inr (0, [.ref (xB X + 3), .ref (xB X + 4)]), .inl (xI X, 40, .inl (fillF 40 50 (fun _ => 0))), .inl (xI X, 10, .inl (hasI)), .inl (xI X, 10, .inl (fillF 10 (-1) (fun _ => 0))), .inl (xI X, 10, .inl (fillF 10 (-1) (fun _ => 0))), .inl (xI X, 20, .inl (fun _ => 0)), .inr (1, [.ref (xB X + 9), .ref (xB X + 10), .ref (xB X + 12), .ref (xB X + 13), .ref (xB X + 14), .int 0, .int 1]), .inr (0, [.ref (xB X + 10), .ref (xB X + 11)]), .inl (xI X, 40, .inl (fillF 40 50 (fun _ => 0))), .inl (xI X, 10, .inl (hasI)), .inl (xI X, 10, .inl (fillF 10 (-1) (fun _ => 0))), .inl (xI X, 10, .inl (fillF 10 (-1) (fun _ => 0))), .inl (xI X, 20, .inl (fun _ => 0)), .inr (1, [.ref (xB X + 16), .ref (xB X + 17), .ref (xB X + 19), .ref (xB X + 20), .ref (xB X + 21), .int 0, .int 1]), .inr (0, [.ref (xB X + 17), .ref (xB X + 18)]), .inl (xI X, 40, .inl (fillF 40 50 (fun _ => 0))), .inl (xI X, 10, .inl (hasI)), .inl (xI X, 10, .inl (fillF 10 (-1) (fun _ => 0))), .inl (xI X, 10, .inl (fillF 10 (-1) (fun _ => 0))), .inl (xI X, 20, .inl (fun _ => 0)), .inr (0, [.ref (xB X + 3), .ref (xB X + 23)]), .inl (xI X, 10, .inl (hasI)), .inr (2, [.ref (xB X + 25), .int 0, .int 0, .int 0, .int 0]), .inl (xR X 0, 4, .inr (.inr (.inr (.inr (va_up (va_up (va_up (fun _ => none) 0 (some (xB X + 26))) 1 (some (xB X + 28))) 2 (some (xB X + 30))))))), .inr (0, [.ref (xB X + 3), .ref (xB X + 27)]), .inl (xI X, 10, .inl (hasI)), .inr (0, [.ref (xB X + 3), .ref (xB X + 29)]), .inl (xI X, 10, .inl (hasI)), .inr (0, [.ref (xB X + 3), .ref (xB X + 31)]), .inl (xI X, 10, .inl (hasI))]
def Mi83 (X : xC) : List va_E := [.inr (5, [.ref (xB X + 1), .ref (xB X + 8), .ref (xB X + 15), .ref (xB X + 2), .ref (xB X + 22), .null, .null, .null, .null, .int 0]), .inr (1, [.ref (xB X + 2), .ref (xB X + 3), .ref (xB X + 5), .ref (xB X + 6), .ref (xB X + 7), .int 0, .int 1]), .inr (0, [.ref (xB X + 3), .ref (xB X + 4)]), .inl (xI X, 40, .inl (fillF 40 50 (fun _ => 0))), .inl (xI X, 10, .inl (hasI)), .inl (xI X, 10, .inl (fillF 10 (-1) (fun _ => 0))), .inl (xI X, 10, .inl (fillF 10 (-1) (fun _ => 0))), .inl (xI X, 20, .inl (fun _ => 0)), .inr (1, [.ref (xB X + 9), .ref (xB X + 10), .ref (xB X + 12), .ref (xB X + 13), .ref (xB X + 14), .int 0, .int 1]), .inr (0, [.ref (xB X + 10), .ref (xB X + 11)]), .inl (xI X, 40, .inl (fillF 40 50 (fun _ => 0))), .inl (xI X, 10, .inl (hasI)), .inl (xI X, 10, .inl (fillF 10 (-1) (fun _ => 0))), .inl (xI X, 10, .inl (fillF 10 (-1) (fun _ => 0))), .inl (xI X, 20, .inl (fun _ => 0)), .inr (1, [.ref (xB X + 16), .ref (xB X + 17), .ref (xB X + 19), .ref (xB X + 20), .ref (xB X + 21), .int 0, .int 1]), .inr (0, [.ref (xB X + 17), .ref (xB X + 18)]), .inl (xI X, 40, .inl (fillF 40 50 (fun _ => 0))), .inl (xI X, 10, .inl (hasI)), .inl (xI X, 10, .inl (fillF 10 (-1) (fun _ => 0))), .inl (xI X, 10, .inl (fillF 10 (-1) (fun _ => 0))), .inl (xI X, 20, .inl (fun _ => 0)), .inr (0, [.ref (xB X + 3), .ref (xB X + 23)]), .inl (xI X, 10, .inl (hasI)), .inr (2, [.ref (xB X + 25), .int 0, .int 0, .int 0, .int 0]), .inl (xR X 0, 4, .inr (.inr (.inr (.inr (va_up (va_up (va_up (fun _ => none) 0 (some (xB X + 26))) 1 (some (xB X + 28))) 2 (some (xB X + 30))))))), .inr (0, [.ref (xB X + 3), .ref (xB X + 27)]), .inl (xI X, 10, .inl (hasI)), .inr (0, [.ref (xB X + 3), .ref (xB X + 29)]), .inl (xI X, 10, .inl (hasI)), .inr (0, [.ref (xB X + 3), .ref (xB X + 31)]), .inl (xI X, 10, .inl (hasI)), .inr (0, [.null, .null])]
def Mi84 (X : xC) : List va_E := [.inr (5, [.ref (xB X + 1), .ref (xB X + 8), .ref (xB X + 15), .ref (xB X + 2), .ref (xB X + 22), .null, .null, .null, .null, .int 0]), .inr (1, [.ref (xB X + 2), .ref (xB X + 3), .ref (xB X + 5), .ref (xB X + 6), .ref (xB X + 7), .int 0, .int 1]), .inr (0, [.ref (xB X + 3), .ref (xB X + 4)]), .inl (xI X, 40, .inl (fillF 40 50 (fun _ => 0))), .inl (xI X, 10, .inl (hasI)), .inl (xI X, 10, .inl (fillF 10 (-1) (fun _ => 0))), .inl (xI X, 10, .inl (fillF 10 (-1) (fun _ => 0))), .inl (xI X, 20, .inl (fun _ => 0)), .inr (1, [.ref (xB X + 9), .ref (xB X + 10), .ref (xB X + 12), .ref (xB X + 13), .ref (xB X + 14), .int 0, .int 1]), .inr (0, [.ref (xB X + 10), .ref (xB X + 11)]), .inl (xI X, 40, .inl (fillF 40 50 (fun _ => 0))), .inl (xI X, 10, .inl (hasI)), .inl (xI X, 10, .inl (fillF 10 (-1) (fun _ => 0))), .inl (xI X, 10, .inl (fillF 10 (-1) (fun _ => 0))), .inl (xI X, 20, .inl (fun _ => 0)), .inr (1, [.ref (xB X + 16), .ref (xB X + 17), .ref (xB X + 19), .ref (xB X + 20), .ref (xB X + 21), .int 0, .int 1]), .inr (0, [.ref (xB X + 17), .ref (xB X + 18)]), .inl (xI X, 40, .inl (fillF 40 50 (fun _ => 0))), .inl (xI X, 10, .inl (hasI)), .inl (xI X, 10, .inl (fillF 10 (-1) (fun _ => 0))), .inl (xI X, 10, .inl (fillF 10 (-1) (fun _ => 0))), .inl (xI X, 20, .inl (fun _ => 0)), .inr (0, [.ref (xB X + 3), .ref (xB X + 23)]), .inl (xI X, 10, .inl (hasI)), .inr (2, [.ref (xB X + 25), .int 0, .int 0, .int 0, .int 0]), .inl (xR X 0, 4, .inr (.inr (.inr (.inr (va_up (va_up (va_up (fun _ => none) 0 (some (xB X + 26))) 1 (some (xB X + 28))) 2 (some (xB X + 30))))))), .inr (0, [.ref (xB X + 3), .ref (xB X + 27)]), .inl (xI X, 10, .inl (hasI)), .inr (0, [.ref (xB X + 3), .ref (xB X + 29)]), .inl (xI X, 10, .inl (hasI)), .inr (0, [.ref (xB X + 3), .ref (xB X + 31)]), .inl (xI X, 10, .inl (hasI)), .inr (0, [.null, .null])]
def Mi85 (X : xC) : List va_E := [.inr (5, [.ref (xB X + 1), .ref (xB X + 8), .ref (xB X + 15), .ref (xB X + 2), .ref (xB X + 22), .null, .null, .null, .null, .int 0]), .inr (1, [.ref (xB X + 2), .ref (xB X + 3), .ref (xB X + 5), .ref (xB X + 6), .ref (xB X + 7), .int 0, .int 1]), .inr (0, [.ref (xB X + 3), .ref (xB X + 4)]), .inl (xI X, 40, .inl (fillF 40 50 (fun _ => 0))), .inl (xI X, 10, .inl (hasI)), .inl (xI X, 10, .inl (fillF 10 (-1) (fun _ => 0))), .inl (xI X, 10, .inl (fillF 10 (-1) (fun _ => 0))), .inl (xI X, 20, .inl (fun _ => 0)), .inr (1, [.ref (xB X + 9), .ref (xB X + 10), .ref (xB X + 12), .ref (xB X + 13), .ref (xB X + 14), .int 0, .int 1]), .inr (0, [.ref (xB X + 10), .ref (xB X + 11)]), .inl (xI X, 40, .inl (fillF 40 50 (fun _ => 0))), .inl (xI X, 10, .inl (hasI)), .inl (xI X, 10, .inl (fillF 10 (-1) (fun _ => 0))), .inl (xI X, 10, .inl (fillF 10 (-1) (fun _ => 0))), .inl (xI X, 20, .inl (fun _ => 0)), .inr (1, [.ref (xB X + 16), .ref (xB X + 17), .ref (xB X + 19), .ref (xB X + 20), .ref (xB X + 21), .int 0, .int 1]), .inr (0, [.ref (xB X + 17), .ref (xB X + 18)]), .inl (xI X, 40, .inl (fillF 40 50 (fun _ => 0))), .inl (xI X, 10, .inl (hasI)), .inl (xI X, 10, .inl (fillF 10 (-1) (fun _ => 0))), .inl (xI X, 10, .inl (fillF 10 (-1) (fun _ => 0))), .inl (xI X, 20, .inl (fun _ => 0)), .inr (0, [.ref (xB X + 3), .ref (xB X + 23)]), .inl (xI X, 10, .inl (hasI)), .inr (2, [.ref (xB X + 25), .int 0, .int 0, .int 0, .int 0]), .inl (xR X 0, 4, .inr (.inr (.inr (.inr (va_up (va_up (va_up (fun _ => none) 0 (some (xB X + 26))) 1 (some (xB X + 28))) 2 (some (xB X + 30))))))), .inr (0, [.ref (xB X + 3), .ref (xB X + 27)]), .inl (xI X, 10, .inl (hasI)), .inr (0, [.ref (xB X + 3), .ref (xB X + 29)]), .inl (xI X, 10, .inl (hasI)), .inr (0, [.ref (xB X + 3), .ref (xB X + 31)]), .inl (xI X, 10, .inl (hasI)), .inr (0, [.ref (xB X + 3), .ref (xB X + 33)]), .inl (xI X, 10, .inl (hasI))]
set_option maxRecDepth 20000 in
set_option maxHeartbeats 4000000 in
theorem wi_L_85 {X : xC} {d : Nat} : Sem X k_L_init (d + 1) 0 [some (.ref (xB X + 32)), some (.ref (xB X + 3))] [] (Mi84 X) none (Mi85 X) 1 10 := by
  refine ev_aload_n d_L_init_0 rfl ?_
  refine ev_objInit d_L_init_1 ml_L_3 (Nat.le_of_ble_eq_true rfl) ?_
  refine ev_aload_n d_L_init_4 rfl ?_
  refine ev_bipush d_L_init_5 ?_
  refine ev_newa (kc := 0) (ks := 0) d_L_init_7 (by decide) (N := 10) (by decide) (by decide) (c0 := 33) rfl hxI ?_
  refine ev_dup d_L_init_9 rfl ?_
  refine ev_iconst d_L_init_10 ?_
  refine ev_bipush d_L_init_11 ?_
  refine ev_iast d_L_init_13 rfl (inb_in (by decide)) ?_
  refine ev_dup d_L_init_14 rfl ?_
  refine ev_iconst d_L_init_15 ?_
  refine ev_iconst d_L_init_16 ?_
  refine ev_iast d_L_init_17 rfl (inb_in (by decide)) ?_
  refine ev_dup d_L_init_18 rfl ?_
  refine ev_iconst d_L_init_19 ?_
  refine ev_bipush d_L_init_20 ?_
  refine ev_iast d_L_init_22 rfl (inb_in (by decide)) ?_
  refine ev_dup d_L_init_23 rfl ?_
  refine ev_iconst d_L_init_24 ?_
  refine ev_iconst d_L_init_25 ?_
  refine ev_iast d_L_init_26 rfl (inb_in (by decide)) ?_
  refine ev_dup d_L_init_27 rfl ?_
  refine ev_iconst d_L_init_28 ?_
  refine ev_iconst d_L_init_29 ?_
  refine ev_iast d_L_init_30 rfl (inb_in (by decide)) ?_
  refine ev_dup d_L_init_31 rfl ?_
  refine ev_iconst d_L_init_32 ?_
  refine ev_iconst d_L_init_33 ?_
  refine ev_iast d_L_init_34 rfl (inb_in (by decide)) ?_
  refine ev_dup d_L_init_35 rfl ?_
  refine ev_bipush d_L_init_36 ?_
  refine ev_sipush d_L_init_38 ?_
  refine ev_iast d_L_init_41 rfl (inb_in (by decide)) ?_
  refine ev_dup d_L_init_42 rfl ?_
  refine ev_bipush d_L_init_43 ?_
  refine ev_iconst d_L_init_45 ?_
  refine ev_iast d_L_init_46 rfl (inb_in (by decide)) ?_
  refine ev_dup d_L_init_47 rfl ?_
  refine ev_bipush d_L_init_48 ?_
  refine ev_iconst d_L_init_50 ?_
  refine ev_iast d_L_init_51 rfl (inb_in (by decide)) ?_
  refine ev_dup d_L_init_52 rfl ?_
  refine ev_bipush d_L_init_53 ?_
  refine ev_iconst d_L_init_55 ?_
  refine ev_iast d_L_init_56 rfl (inb_in (by decide)) ?_
  refine ev_putF d_L_init_57 fl_L_9 ⟨_, rfl, rfl⟩ rfl rfl rfl rfl rfl (Nat.le_of_ble_eq_true rfl) ?_
  refine ev_aload_n d_L_init_60 rfl ?_
  refine ev_aload_n d_L_init_61 rfl ?_
  refine ev_putF d_L_init_62 fl_L_15 ⟨_, rfl, rfl⟩ rfl rfl rfl rfl rfl (Nat.le_of_ble_eq_true rfl) ?_
  exact ev_return d_L_init_65 rfl
def Mi86 (X : xC) : List va_E := [.inr (5, [.ref (xB X + 1), .ref (xB X + 8), .ref (xB X + 15), .ref (xB X + 2), .ref (xB X + 22), .null, .null, .null, .null, .int 0]), .inr (1, [.ref (xB X + 2), .ref (xB X + 3), .ref (xB X + 5), .ref (xB X + 6), .ref (xB X + 7), .int 0, .int 1]), .inr (0, [.ref (xB X + 3), .ref (xB X + 4)]), .inl (xI X, 40, .inl (fillF 40 50 (fun _ => 0))), .inl (xI X, 10, .inl (hasI)), .inl (xI X, 10, .inl (fillF 10 (-1) (fun _ => 0))), .inl (xI X, 10, .inl (fillF 10 (-1) (fun _ => 0))), .inl (xI X, 20, .inl (fun _ => 0)), .inr (1, [.ref (xB X + 9), .ref (xB X + 10), .ref (xB X + 12), .ref (xB X + 13), .ref (xB X + 14), .int 0, .int 1]), .inr (0, [.ref (xB X + 10), .ref (xB X + 11)]), .inl (xI X, 40, .inl (fillF 40 50 (fun _ => 0))), .inl (xI X, 10, .inl (hasI)), .inl (xI X, 10, .inl (fillF 10 (-1) (fun _ => 0))), .inl (xI X, 10, .inl (fillF 10 (-1) (fun _ => 0))), .inl (xI X, 20, .inl (fun _ => 0)), .inr (1, [.ref (xB X + 16), .ref (xB X + 17), .ref (xB X + 19), .ref (xB X + 20), .ref (xB X + 21), .int 0, .int 1]), .inr (0, [.ref (xB X + 17), .ref (xB X + 18)]), .inl (xI X, 40, .inl (fillF 40 50 (fun _ => 0))), .inl (xI X, 10, .inl (hasI)), .inl (xI X, 10, .inl (fillF 10 (-1) (fun _ => 0))), .inl (xI X, 10, .inl (fillF 10 (-1) (fun _ => 0))), .inl (xI X, 20, .inl (fun _ => 0)), .inr (0, [.ref (xB X + 3), .ref (xB X + 23)]), .inl (xI X, 10, .inl (hasI)), .inr (2, [.ref (xB X + 25), .int 0, .int 0, .int 0, .int 0]), .inl (xR X 0, 4, .inr (.inr (.inr (.inr (va_up (va_up (va_up (va_up (fun _ => none) 0 (some (xB X + 26))) 1 (some (xB X + 28))) 2 (some (xB X + 30))) 3 (some (xB X + 32))))))), .inr (0, [.ref (xB X + 3), .ref (xB X + 27)]), .inl (xI X, 10, .inl (hasI)), .inr (0, [.ref (xB X + 3), .ref (xB X + 29)]), .inl (xI X, 10, .inl (hasI)), .inr (0, [.ref (xB X + 3), .ref (xB X + 31)]), .inl (xI X, 10, .inl (hasI)), .inr (0, [.ref (xB X + 3), .ref (xB X + 33)]), .inl (xI X, 10, .inl (hasI))]
def Mi87 (X : xC) : List va_E := [.inr (5, [.ref (xB X + 1), .ref (xB X + 8), .ref (xB X + 15), .ref (xB X + 2), .ref (xB X + 22), .null, .null, .null, .null, .int 0]), .inr (1, [.ref (xB X + 2), .ref (xB X + 3), .ref (xB X + 5), .ref (xB X + 6), .ref (xB X + 7), .int 0, .int 1]), .inr (0, [.ref (xB X + 3), .ref (xB X + 4)]), .inl (xI X, 40, .inl (fillF 40 50 (fun _ => 0))), .inl (xI X, 10, .inl (hasI)), .inl (xI X, 10, .inl (fillF 10 (-1) (fun _ => 0))), .inl (xI X, 10, .inl (fillF 10 (-1) (fun _ => 0))), .inl (xI X, 20, .inl (fun _ => 0)), .inr (1, [.ref (xB X + 9), .ref (xB X + 10), .ref (xB X + 12), .ref (xB X + 13), .ref (xB X + 14), .int 0, .int 1]), .inr (0, [.ref (xB X + 10), .ref (xB X + 11)]), .inl (xI X, 40, .inl (fillF 40 50 (fun _ => 0))), .inl (xI X, 10, .inl (hasI)), .inl (xI X, 10, .inl (fillF 10 (-1) (fun _ => 0))), .inl (xI X, 10, .inl (fillF 10 (-1) (fun _ => 0))), .inl (xI X, 20, .inl (fun _ => 0)), .inr (1, [.ref (xB X + 16), .ref (xB X + 17), .ref (xB X + 19), .ref (xB X + 20), .ref (xB X + 21), .int 0, .int 1]), .inr (0, [.ref (xB X + 17), .ref (xB X + 18)]), .inl (xI X, 40, .inl (fillF 40 50 (fun _ => 0))), .inl (xI X, 10, .inl (hasI)), .inl (xI X, 10, .inl (fillF 10 (-1) (fun _ => 0))), .inl (xI X, 10, .inl (fillF 10 (-1) (fun _ => 0))), .inl (xI X, 20, .inl (fun _ => 0)), .inr (0, [.ref (xB X + 3), .ref (xB X + 23)]), .inl (xI X, 10, .inl (hasI)), .inr (2, [.ref (xB X + 25), .int 0, .int 0, .int 0, .int 0]), .inl (xR X 0, 4, .inr (.inr (.inr (.inr (va_up (va_up (va_up (va_up (fun _ => none) 0 (some (xB X + 26))) 1 (some (xB X + 28))) 2 (some (xB X + 30))) 3 (some (xB X + 32))))))), .inr (0, [.ref (xB X + 3), .ref (xB X + 27)]), .inl (xI X, 10, .inl (hasI)), .inr (0, [.ref (xB X + 3), .ref (xB X + 29)]), .inl (xI X, 10, .inl (hasI)), .inr (0, [.ref (xB X + 3), .ref (xB X + 31)]), .inl (xI X, 10, .inl (hasI)), .inr (0, [.ref (xB X + 3), .ref (xB X + 33)]), .inl (xI X, 10, .inl (hasI))]
set_option maxRecDepth 20000 in
set_option maxHeartbeats 4000000 in
theorem wi_H_87 {X : xC} {d : Nat} : Sem X k_H_init (d + 2) 0 [some (.ref (xB X + 24)), some (.ref (xB X + 3)), none] [] (Mi68 X) none (Mi87 X) 9 52 := by
  refine ev_aload_n d_H_init_0 rfl ?_
  refine ev_objInit d_H_init_1 ml_H_3 (Nat.le_of_ble_eq_true rfl) ?_
  refine ev_aload_n d_H_init_4 rfl ?_
  refine ev_iconst d_H_init_5 ?_
  refine ev_newq (kc := 8) (ks := 48) (t := 1) (cA := xR X 0) d_H_init_6 (TG_at 88 (by decide +kernel) (by decide +kernel)) hx0 (by decide) (N := 4) (by decide) (by decide) (c0 := 25) rfl rfl ?_
  refine Sem.mem (M2 := Mi69 X) rfl ?_
  refine ev_putF d_H_init_9 fl_H_11 ⟨_, rfl, rfl⟩ rfl rfl rfl rfl rfl (Nat.le_of_ble_eq_true rfl) ?_
  refine Sem.mem (M2 := Mi70 X) rfl ?_
  refine ev_iconst d_H_init_12 ?_
  refine ev_istore_n d_H_init_13 (by decide) ?_
  refine ev_iload_n d_H_init_14 rfl ?_
  refine ev_iconst d_H_init_15 ?_
  refine ev_icmp_gt d_H_init_16 (fun h => absurd h (by decide)) (fun _ => ?_)
  refine ev_aload_n d_H_init_19 rfl ?_
  refine ev_get d_H_init_20 fl_H_11 rfl rfl ?_
  refine ev_iload_n d_H_init_23 rfl ?_
  refine ev_new (kc := 7) (ks := 46) (ci := 0) (fs := [.null, .null]) d_H_init_24 rfl (TG_at 88 (by decide +kernel) (by decide +kernel)) (TG_at 30 (by decide +kernel) (by decide +kernel)) (TG_at 3 (by decide +kernel) (by decide +kernel)) dv_0 (c0 := 26) rfl ?_
  refine Sem.mem (M2 := Mi71 X) rfl ?_
  refine ev_dup d_H_init_27 rfl ?_
  refine ev_aload_n d_H_init_28 rfl ?_
  refine ev_callI (As := [.ref (xB X + 3)]) (k1 := 1) (s1 := 10) (kc := 6) (ks := 36) d_H_init_29 ml_H_17 ik_L_init rfl rfl (cat_cons rfl (fun v hv => by cases hv)) (Nat.le_of_ble_eq_true rfl) (wi_L_73 (X := X) (d := d)) ?_
  refine ev_aast (t := 1) d_H_init_32 rfl rfl rfl rfl (inb_in (by decide)) ?_
  refine Sem.mem (M2 := Mi74 X) rfl ?_
  refine ev_iinc d_H_init_33 (by decide) rfl ?_
  refine ev_goto d_H_init_36 ?_
  refine ev_iload_n d_H_init_14 rfl ?_
  refine ev_iconst d_H_init_15 ?_
  refine ev_icmp_gt d_H_init_16 (fun h => absurd h (by decide)) (fun _ => ?_)
  refine ev_aload_n d_H_init_19 rfl ?_
  refine ev_get d_H_init_20 fl_H_11 rfl rfl ?_
  refine ev_iload_n d_H_init_23 rfl ?_
  refine ev_new (kc := 5) (ks := 34) (ci := 0) (fs := [.null, .null]) d_H_init_24 rfl (TG_at 88 (by decide +kernel) (by decide +kernel)) (TG_at 30 (by decide +kernel) (by decide +kernel)) (TG_at 3 (by decide +kernel) (by decide +kernel)) dv_0 (c0 := 28) rfl ?_
  refine Sem.mem (M2 := Mi75 X) rfl ?_
  refine ev_dup d_H_init_27 rfl ?_
  refine ev_aload_n d_H_init_28 rfl ?_
  refine ev_callI (As := [.ref (xB X + 3)]) (k1 := 1) (s1 := 10) (kc := 4) (ks := 24) d_H_init_29 ml_H_17 ik_L_init rfl rfl (cat_cons rfl (fun v hv => by cases hv)) (Nat.le_of_ble_eq_true rfl) (wi_L_77 (X := X) (d := d)) ?_
  refine ev_aast (t := 1) d_H_init_32 rfl rfl rfl rfl (inb_in (by decide)) ?_
  refine Sem.mem (M2 := Mi78 X) rfl ?_
  refine ev_iinc d_H_init_33 (by decide) rfl ?_
  refine ev_goto d_H_init_36 ?_
  refine ev_iload_n d_H_init_14 rfl ?_
  refine ev_iconst d_H_init_15 ?_
  refine ev_icmp_gt d_H_init_16 (fun h => absurd h (by decide)) (fun _ => ?_)
  refine ev_aload_n d_H_init_19 rfl ?_
  refine ev_get d_H_init_20 fl_H_11 rfl rfl ?_
  refine ev_iload_n d_H_init_23 rfl ?_
  refine ev_new (kc := 3) (ks := 22) (ci := 0) (fs := [.null, .null]) d_H_init_24 rfl (TG_at 88 (by decide +kernel) (by decide +kernel)) (TG_at 30 (by decide +kernel) (by decide +kernel)) (TG_at 3 (by decide +kernel) (by decide +kernel)) dv_0 (c0 := 30) rfl ?_
  refine Sem.mem (M2 := Mi79 X) rfl ?_
  refine ev_dup d_H_init_27 rfl ?_
  refine ev_aload_n d_H_init_28 rfl ?_
  refine ev_callI (As := [.ref (xB X + 3)]) (k1 := 1) (s1 := 10) (kc := 2) (ks := 12) d_H_init_29 ml_H_17 ik_L_init rfl rfl (cat_cons rfl (fun v hv => by cases hv)) (Nat.le_of_ble_eq_true rfl) (wi_L_81 (X := X) (d := d)) ?_
  refine ev_aast (t := 1) d_H_init_32 rfl rfl rfl rfl (inb_in (by decide)) ?_
  refine Sem.mem (M2 := Mi82 X) rfl ?_
  refine ev_iinc d_H_init_33 (by decide) rfl ?_
  refine ev_goto d_H_init_36 ?_
  refine ev_iload_n d_H_init_14 rfl ?_
  refine ev_iconst d_H_init_15 ?_
  refine ev_icmp_gt d_H_init_16 (fun h => absurd h (by decide)) (fun _ => ?_)
  refine ev_aload_n d_H_init_19 rfl ?_
  refine ev_get d_H_init_20 fl_H_11 rfl rfl ?_
  refine ev_iload_n d_H_init_23 rfl ?_
  refine ev_new (kc := 1) (ks := 10) (ci := 0) (fs := [.null, .null]) d_H_init_24 rfl (TG_at 88 (by decide +kernel) (by decide +kernel)) (TG_at 30 (by decide +kernel) (by decide +kernel)) (TG_at 3 (by decide +kernel) (by decide +kernel)) dv_0 (c0 := 32) rfl ?_
  refine Sem.mem (M2 := Mi83 X) rfl ?_
  refine ev_dup d_H_init_27 rfl ?_
  refine ev_aload_n d_H_init_28 rfl ?_
  refine ev_callI (As := [.ref (xB X + 3)]) (k1 := 1) (s1 := 10) (kc := 0) (ks := 0) d_H_init_29 ml_H_17 ik_L_init rfl rfl (cat_cons rfl (fun v hv => by cases hv)) (Nat.le_of_ble_eq_true rfl) (wi_L_85 (X := X) (d := d)) ?_
  refine ev_aast (t := 1) d_H_init_32 rfl rfl rfl rfl (inb_in (by decide)) ?_
  refine Sem.mem (M2 := Mi86 X) rfl ?_
  refine ev_iinc d_H_init_33 (by decide) rfl ?_
  refine ev_goto d_H_init_36 ?_
  refine ev_iload_n d_H_init_14 rfl ?_
  refine ev_iconst d_H_init_15 ?_
  refine ev_icmp_gt d_H_init_16 (fun _ => ?_) (fun h => absurd (by decide) h)
  exact ev_return d_H_init_39 rfl
def Mi88 (X : xC) : List va_E := [.inr (5, [.ref (xB X + 1), .ref (xB X + 8), .ref (xB X + 15), .ref (xB X + 2), .ref (xB X + 22), .ref (xB X + 24), .null, .null, .null, .int 0]), .inr (1, [.ref (xB X + 2), .ref (xB X + 3), .ref (xB X + 5), .ref (xB X + 6), .ref (xB X + 7), .int 0, .int 1]), .inr (0, [.ref (xB X + 3), .ref (xB X + 4)]), .inl (xI X, 40, .inl (fillF 40 50 (fun _ => 0))), .inl (xI X, 10, .inl (hasI)), .inl (xI X, 10, .inl (fillF 10 (-1) (fun _ => 0))), .inl (xI X, 10, .inl (fillF 10 (-1) (fun _ => 0))), .inl (xI X, 20, .inl (fun _ => 0)), .inr (1, [.ref (xB X + 9), .ref (xB X + 10), .ref (xB X + 12), .ref (xB X + 13), .ref (xB X + 14), .int 0, .int 1]), .inr (0, [.ref (xB X + 10), .ref (xB X + 11)]), .inl (xI X, 40, .inl (fillF 40 50 (fun _ => 0))), .inl (xI X, 10, .inl (hasI)), .inl (xI X, 10, .inl (fillF 10 (-1) (fun _ => 0))), .inl (xI X, 10, .inl (fillF 10 (-1) (fun _ => 0))), .inl (xI X, 20, .inl (fun _ => 0)), .inr (1, [.ref (xB X + 16), .ref (xB X + 17), .ref (xB X + 19), .ref (xB X + 20), .ref (xB X + 21), .int 0, .int 1]), .inr (0, [.ref (xB X + 17), .ref (xB X + 18)]), .inl (xI X, 40, .inl (fillF 40 50 (fun _ => 0))), .inl (xI X, 10, .inl (hasI)), .inl (xI X, 10, .inl (fillF 10 (-1) (fun _ => 0))), .inl (xI X, 10, .inl (fillF 10 (-1) (fun _ => 0))), .inl (xI X, 20, .inl (fun _ => 0)), .inr (0, [.ref (xB X + 3), .ref (xB X + 23)]), .inl (xI X, 10, .inl (hasI)), .inr (2, [.ref (xB X + 25), .int 0, .int 0, .int 0, .int 0]), .inl (xR X 0, 4, .inr (.inr (.inr (.inr (va_up (va_up (va_up (va_up (fun _ => none) 0 (some (xB X + 26))) 1 (some (xB X + 28))) 2 (some (xB X + 30))) 3 (some (xB X + 32))))))), .inr (0, [.ref (xB X + 3), .ref (xB X + 27)]), .inl (xI X, 10, .inl (hasI)), .inr (0, [.ref (xB X + 3), .ref (xB X + 29)]), .inl (xI X, 10, .inl (hasI)), .inr (0, [.ref (xB X + 3), .ref (xB X + 31)]), .inl (xI X, 10, .inl (hasI)), .inr (0, [.ref (xB X + 3), .ref (xB X + 33)]), .inl (xI X, 10, .inl (hasI))]
def Mi89 (X : xC) : List va_E := [.inr (5, [.ref (xB X + 1), .ref (xB X + 8), .ref (xB X + 15), .ref (xB X + 2), .ref (xB X + 22), .ref (xB X + 24), .null, .null, .null, .int 0]), .inr (1, [.ref (xB X + 2), .ref (xB X + 3), .ref (xB X + 5), .ref (xB X + 6), .ref (xB X + 7), .int 0, .int 1]), .inr (0, [.ref (xB X + 3), .ref (xB X + 4)]), .inl (xI X, 40, .inl (fillF 40 50 (fun _ => 0))), .inl (xI X, 10, .inl (hasI)), .inl (xI X, 10, .inl (fillF 10 (-1) (fun _ => 0))), .inl (xI X, 10, .inl (fillF 10 (-1) (fun _ => 0))), .inl (xI X, 20, .inl (fun _ => 0)), .inr (1, [.ref (xB X + 9), .ref (xB X + 10), .ref (xB X + 12), .ref (xB X + 13), .ref (xB X + 14), .int 0, .int 1]), .inr (0, [.ref (xB X + 10), .ref (xB X + 11)]), .inl (xI X, 40, .inl (fillF 40 50 (fun _ => 0))), .inl (xI X, 10, .inl (hasI)), .inl (xI X, 10, .inl (fillF 10 (-1) (fun _ => 0))), .inl (xI X, 10, .inl (fillF 10 (-1) (fun _ => 0))), .inl (xI X, 20, .inl (fun _ => 0)), .inr (1, [.ref (xB X + 16), .ref (xB X + 17), .ref (xB X + 19), .ref (xB X + 20), .ref (xB X + 21), .int 0, .int 1]), .inr (0, [.ref (xB X + 17), .ref (xB X + 18)]), .inl (xI X, 40, .inl (fillF 40 50 (fun _ => 0))), .inl (xI X, 10, .inl (hasI)), .inl (xI X, 10, .inl (fillF 10 (-1) (fun _ => 0))), .inl (xI X, 10, .inl (fillF 10 (-1) (fun _ => 0))), .inl (xI X, 20, .inl (fun _ => 0)), .inr (0, [.ref (xB X + 3), .ref (xB X + 23)]), .inl (xI X, 10, .inl (hasI)), .inr (2, [.ref (xB X + 25), .int 0, .int 0, .int 0, .int 0]), .inl (xR X 0, 4, .inr (.inr (.inr (.inr (va_up (va_up (va_up (va_up (fun _ => none) 0 (some (xB X + 26))) 1 (some (xB X + 28))) 2 (some (xB X + 30))) 3 (some (xB X + 32))))))), .inr (0, [.ref (xB X + 3), .ref (xB X + 27)]), .inl (xI X, 10, .inl (hasI)), .inr (0, [.ref (xB X + 3), .ref (xB X + 29)]), .inl (xI X, 10, .inl (hasI)), .inr (0, [.ref (xB X + 3), .ref (xB X + 31)]), .inl (xI X, 10, .inl (hasI)), .inr (0, [.ref (xB X + 3), .ref (xB X + 33)]), .inl (xI X, 10, .inl (hasI)), .inr (4, [.null, .int 0, .int 0, .int 0, .int 0, .int 0])]
def Mi90 (X : xC) : List va_E := [.inr (5, [.ref (xB X + 1), .ref (xB X + 8), .ref (xB X + 15), .ref (xB X + 2), .ref (xB X + 22), .ref (xB X + 24), .null, .null, .null, .int 0]), .inr (1, [.ref (xB X + 2), .ref (xB X + 3), .ref (xB X + 5), .ref (xB X + 6), .ref (xB X + 7), .int 0, .int 1]), .inr (0, [.ref (xB X + 3), .ref (xB X + 4)]), .inl (xI X, 40, .inl (fillF 40 50 (fun _ => 0))), .inl (xI X, 10, .inl (hasI)), .inl (xI X, 10, .inl (fillF 10 (-1) (fun _ => 0))), .inl (xI X, 10, .inl (fillF 10 (-1) (fun _ => 0))), .inl (xI X, 20, .inl (fun _ => 0)), .inr (1, [.ref (xB X + 9), .ref (xB X + 10), .ref (xB X + 12), .ref (xB X + 13), .ref (xB X + 14), .int 0, .int 1]), .inr (0, [.ref (xB X + 10), .ref (xB X + 11)]), .inl (xI X, 40, .inl (fillF 40 50 (fun _ => 0))), .inl (xI X, 10, .inl (hasI)), .inl (xI X, 10, .inl (fillF 10 (-1) (fun _ => 0))), .inl (xI X, 10, .inl (fillF 10 (-1) (fun _ => 0))), .inl (xI X, 20, .inl (fun _ => 0)), .inr (1, [.ref (xB X + 16), .ref (xB X + 17), .ref (xB X + 19), .ref (xB X + 20), .ref (xB X + 21), .int 0, .int 1]), .inr (0, [.ref (xB X + 17), .ref (xB X + 18)]), .inl (xI X, 40, .inl (fillF 40 50 (fun _ => 0))), .inl (xI X, 10, .inl (hasI)), .inl (xI X, 10, .inl (fillF 10 (-1) (fun _ => 0))), .inl (xI X, 10, .inl (fillF 10 (-1) (fun _ => 0))), .inl (xI X, 20, .inl (fun _ => 0)), .inr (0, [.ref (xB X + 3), .ref (xB X + 23)]), .inl (xI X, 10, .inl (hasI)), .inr (2, [.ref (xB X + 25), .int 0, .int 0, .int 0, .int 0]), .inl (xR X 0, 4, .inr (.inr (.inr (.inr (va_up (va_up (va_up (va_up (fun _ => none) 0 (some (xB X + 26))) 1 (some (xB X + 28))) 2 (some (xB X + 30))) 3 (some (xB X + 32))))))), .inr (0, [.ref (xB X + 3), .ref (xB X + 27)]), .inl (xI X, 10, .inl (hasI)), .inr (0, [.ref (xB X + 3), .ref (xB X + 29)]), .inl (xI X, 10, .inl (hasI)), .inr (0, [.ref (xB X + 3), .ref (xB X + 31)]), .inl (xI X, 10, .inl (hasI)), .inr (0, [.ref (xB X + 3), .ref (xB X + 33)]), .inl (xI X, 10, .inl (hasI)), .inr (4, [.null, .int 0, .int 0, .int 0, .int 0, .int 0])]
def Mi91 (X : xC) : List va_E := [.inr (5, [.ref (xB X + 1), .ref (xB X + 8), .ref (xB X + 15), .ref (xB X + 2), .ref (xB X + 22), .ref (xB X + 24), .null, .null, .null, .int 0]), .inr (1, [.ref (xB X + 2), .ref (xB X + 3), .ref (xB X + 5), .ref (xB X + 6), .ref (xB X + 7), .int 0, .int 1]), .inr (0, [.ref (xB X + 3), .ref (xB X + 4)]), .inl (xI X, 40, .inl (fillF 40 50 (fun _ => 0))), .inl (xI X, 10, .inl (hasI)), .inl (xI X, 10, .inl (fillF 10 (-1) (fun _ => 0))), .inl (xI X, 10, .inl (fillF 10 (-1) (fun _ => 0))), .inl (xI X, 20, .inl (fun _ => 0)), .inr (1, [.ref (xB X + 9), .ref (xB X + 10), .ref (xB X + 12), .ref (xB X + 13), .ref (xB X + 14), .int 0, .int 1]), .inr (0, [.ref (xB X + 10), .ref (xB X + 11)]), .inl (xI X, 40, .inl (fillF 40 50 (fun _ => 0))), .inl (xI X, 10, .inl (hasI)), .inl (xI X, 10, .inl (fillF 10 (-1) (fun _ => 0))), .inl (xI X, 10, .inl (fillF 10 (-1) (fun _ => 0))), .inl (xI X, 20, .inl (fun _ => 0)), .inr (1, [.ref (xB X + 16), .ref (xB X + 17), .ref (xB X + 19), .ref (xB X + 20), .ref (xB X + 21), .int 0, .int 1]), .inr (0, [.ref (xB X + 17), .ref (xB X + 18)]), .inl (xI X, 40, .inl (fillF 40 50 (fun _ => 0))), .inl (xI X, 10, .inl (hasI)), .inl (xI X, 10, .inl (fillF 10 (-1) (fun _ => 0))), .inl (xI X, 10, .inl (fillF 10 (-1) (fun _ => 0))), .inl (xI X, 20, .inl (fun _ => 0)), .inr (0, [.ref (xB X + 3), .ref (xB X + 23)]), .inl (xI X, 10, .inl (hasI)), .inr (2, [.ref (xB X + 25), .int 0, .int 0, .int 0, .int 0]), .inl (xR X 0, 4, .inr (.inr (.inr (.inr (va_up (va_up (va_up (va_up (fun _ => none) 0 (some (xB X + 26))) 1 (some (xB X + 28))) 2 (some (xB X + 30))) 3 (some (xB X + 32))))))), .inr (0, [.ref (xB X + 3), .ref (xB X + 27)]), .inl (xI X, 10, .inl (hasI)), .inr (0, [.ref (xB X + 3), .ref (xB X + 29)]), .inl (xI X, 10, .inl (hasI)), .inr (0, [.ref (xB X + 3), .ref (xB X + 31)]), .inl (xI X, 10, .inl (hasI)), .inr (0, [.ref (xB X + 3), .ref (xB X + 33)]), .inl (xI X, 10, .inl (hasI)), .inr (4, [.ref (xB X + 35), .int 0, .int 0, .int 0, .int 0, .int 0]), .inl (xI X, 120, .inl (fun _ => 0))]
set_option maxRecDepth 20000 in
set_option maxHeartbeats 4000000 in
theorem wi_P_91 {X : xC} {d : Nat} : Sem X k_P_init (d + 1) 0 [some (.ref (xB X + 34))] [] (Mi90 X) none (Mi91 X) 1 120 := by
  refine ev_aload_n d_P_init_0 rfl ?_
  refine ev_objInit d_P_init_1 ml_P_3 (Nat.le_of_ble_eq_true rfl) ?_
  refine ev_aload_n d_P_init_4 rfl ?_
  refine ev_bipush d_P_init_5 ?_
  refine ev_newa (kc := 0) (ks := 0) d_P_init_7 (by decide) (N := 120) (by decide) (by decide) (c0 := 35) rfl hxI ?_
  refine ev_putF d_P_init_9 fl_P_9 ⟨_, rfl, rfl⟩ rfl rfl rfl rfl rfl (Nat.le_of_ble_eq_true rfl) ?_
  exact ev_return d_P_init_12 rfl
def Mi92 (X : xC) : List va_E := [.inr (5, [.ref (xB X + 1), .ref (xB X + 8), .ref (xB X + 15), .ref (xB X + 2), .ref (xB X + 22), .ref (xB X + 24), .ref (xB X + 34), .null, .null, .int 0]), .inr (1, [.ref (xB X + 2), .ref (xB X + 3), .ref (xB X + 5), .ref (xB X + 6), .ref (xB X + 7), .int 0, .int 1]), .inr (0, [.ref (xB X + 3), .ref (xB X + 4)]), .inl (xI X, 40, .inl (fillF 40 50 (fun _ => 0))), .inl (xI X, 10, .inl (hasI)), .inl (xI X, 10, .inl (fillF 10 (-1) (fun _ => 0))), .inl (xI X, 10, .inl (fillF 10 (-1) (fun _ => 0))), .inl (xI X, 20, .inl (fun _ => 0)), .inr (1, [.ref (xB X + 9), .ref (xB X + 10), .ref (xB X + 12), .ref (xB X + 13), .ref (xB X + 14), .int 0, .int 1]), .inr (0, [.ref (xB X + 10), .ref (xB X + 11)]), .inl (xI X, 40, .inl (fillF 40 50 (fun _ => 0))), .inl (xI X, 10, .inl (hasI)), .inl (xI X, 10, .inl (fillF 10 (-1) (fun _ => 0))), .inl (xI X, 10, .inl (fillF 10 (-1) (fun _ => 0))), .inl (xI X, 20, .inl (fun _ => 0)), .inr (1, [.ref (xB X + 16), .ref (xB X + 17), .ref (xB X + 19), .ref (xB X + 20), .ref (xB X + 21), .int 0, .int 1]), .inr (0, [.ref (xB X + 17), .ref (xB X + 18)]), .inl (xI X, 40, .inl (fillF 40 50 (fun _ => 0))), .inl (xI X, 10, .inl (hasI)), .inl (xI X, 10, .inl (fillF 10 (-1) (fun _ => 0))), .inl (xI X, 10, .inl (fillF 10 (-1) (fun _ => 0))), .inl (xI X, 20, .inl (fun _ => 0)), .inr (0, [.ref (xB X + 3), .ref (xB X + 23)]), .inl (xI X, 10, .inl (hasI)), .inr (2, [.ref (xB X + 25), .int 0, .int 0, .int 0, .int 0]), .inl (xR X 0, 4, .inr (.inr (.inr (.inr (va_up (va_up (va_up (va_up (fun _ => none) 0 (some (xB X + 26))) 1 (some (xB X + 28))) 2 (some (xB X + 30))) 3 (some (xB X + 32))))))), .inr (0, [.ref (xB X + 3), .ref (xB X + 27)]), .inl (xI X, 10, .inl (hasI)), .inr (0, [.ref (xB X + 3), .ref (xB X + 29)]), .inl (xI X, 10, .inl (hasI)), .inr (0, [.ref (xB X + 3), .ref (xB X + 31)]), .inl (xI X, 10, .inl (hasI)), .inr (0, [.ref (xB X + 3), .ref (xB X + 33)]), .inl (xI X, 10, .inl (hasI)), .inr (4, [.ref (xB X + 35), .int 0, .int 0, .int 0, .int 0, .int 0]), .inl (xI X, 120, .inl (fun _ => 0))]
def Mi93 (X : xC) : List va_E := [.inr (5, [.ref (xB X + 1), .ref (xB X + 8), .ref (xB X + 15), .ref (xB X + 2), .ref (xB X + 22), .ref (xB X + 24), .ref (xB X + 34), .null, .null, .int 0]), .inr (1, [.ref (xB X + 2), .ref (xB X + 3), .ref (xB X + 5), .ref (xB X + 6), .ref (xB X + 7), .int 0, .int 1]), .inr (0, [.ref (xB X + 3), .ref (xB X + 4)]), .inl (xI X, 40, .inl (fillF 40 50 (fun _ => 0))), .inl (xI X, 10, .inl (hasI)), .inl (xI X, 10, .inl (fillF 10 (-1) (fun _ => 0))), .inl (xI X, 10, .inl (fillF 10 (-1) (fun _ => 0))), .inl (xI X, 20, .inl (fun _ => 0)), .inr (1, [.ref (xB X + 9), .ref (xB X + 10), .ref (xB X + 12), .ref (xB X + 13), .ref (xB X + 14), .int 0, .int 1]), .inr (0, [.ref (xB X + 10), .ref (xB X + 11)]), .inl (xI X, 40, .inl (fillF 40 50 (fun _ => 0))), .inl (xI X, 10, .inl (hasI)), .inl (xI X, 10, .inl (fillF 10 (-1) (fun _ => 0))), .inl (xI X, 10, .inl (fillF 10 (-1) (fun _ => 0))), .inl (xI X, 20, .inl (fun _ => 0)), .inr (1, [.ref (xB X + 16), .ref (xB X + 17), .ref (xB X + 19), .ref (xB X + 20), .ref (xB X + 21), .int 0, .int 1]), .inr (0, [.ref (xB X + 17), .ref (xB X + 18)]), .inl (xI X, 40, .inl (fillF 40 50 (fun _ => 0))), .inl (xI X, 10, .inl (hasI)), .inl (xI X, 10, .inl (fillF 10 (-1) (fun _ => 0))), .inl (xI X, 10, .inl (fillF 10 (-1) (fun _ => 0))), .inl (xI X, 20, .inl (fun _ => 0)), .inr (0, [.ref (xB X + 3), .ref (xB X + 23)]), .inl (xI X, 10, .inl (hasI)), .inr (2, [.ref (xB X + 25), .int 0, .int 0, .int 0, .int 0]), .inl (xR X 0, 4, .inr (.inr (.inr (.inr (va_up (va_up (va_up (va_up (fun _ => none) 0 (some (xB X + 26))) 1 (some (xB X + 28))) 2 (some (xB X + 30))) 3 (some (xB X + 32))))))), .inr (0, [.ref (xB X + 3), .ref (xB X + 27)]), .inl (xI X, 10, .inl (hasI)), .inr (0, [.ref (xB X + 3), .ref (xB X + 29)]), .inl (xI X, 10, .inl (hasI)), .inr (0, [.ref (xB X + 3), .ref (xB X + 31)]), .inl (xI X, 10, .inl (hasI)), .inr (0, [.ref (xB X + 3), .ref (xB X + 33)]), .inl (xI X, 10, .inl (hasI)), .inr (4, [.ref (xB X + 35), .int 0, .int 0, .int 0, .int 0, .int 0]), .inl (xI X, 120, .inl (fun _ => 0)), .inl (xR X 1, 4, .inr (.inr (.inr (.inr (fun _ => none)))))]
def Mi94 (X : xC) : List va_E := [.inr (5, [.ref (xB X + 1), .ref (xB X + 8), .ref (xB X + 15), .ref (xB X + 2), .ref (xB X + 22), .ref (xB X + 24), .ref (xB X + 34), .null, .null, .int 0]), .inr (1, [.ref (xB X + 2), .ref (xB X + 3), .ref (xB X + 5), .ref (xB X + 6), .ref (xB X + 7), .int 0, .int 1]), .inr (0, [.ref (xB X + 3), .ref (xB X + 4)]), .inl (xI X, 40, .inl (fillF 40 50 (fun _ => 0))), .inl (xI X, 10, .inl (hasI)), .inl (xI X, 10, .inl (fillF 10 (-1) (fun _ => 0))), .inl (xI X, 10, .inl (fillF 10 (-1) (fun _ => 0))), .inl (xI X, 20, .inl (fun _ => 0)), .inr (1, [.ref (xB X + 9), .ref (xB X + 10), .ref (xB X + 12), .ref (xB X + 13), .ref (xB X + 14), .int 0, .int 1]), .inr (0, [.ref (xB X + 10), .ref (xB X + 11)]), .inl (xI X, 40, .inl (fillF 40 50 (fun _ => 0))), .inl (xI X, 10, .inl (hasI)), .inl (xI X, 10, .inl (fillF 10 (-1) (fun _ => 0))), .inl (xI X, 10, .inl (fillF 10 (-1) (fun _ => 0))), .inl (xI X, 20, .inl (fun _ => 0)), .inr (1, [.ref (xB X + 16), .ref (xB X + 17), .ref (xB X + 19), .ref (xB X + 20), .ref (xB X + 21), .int 0, .int 1]), .inr (0, [.ref (xB X + 17), .ref (xB X + 18)]), .inl (xI X, 40, .inl (fillF 40 50 (fun _ => 0))), .inl (xI X, 10, .inl (hasI)), .inl (xI X, 10, .inl (fillF 10 (-1) (fun _ => 0))), .inl (xI X, 10, .inl (fillF 10 (-1) (fun _ => 0))), .inl (xI X, 20, .inl (fun _ => 0)), .inr (0, [.ref (xB X + 3), .ref (xB X + 23)]), .inl (xI X, 10, .inl (hasI)), .inr (2, [.ref (xB X + 25), .int 0, .int 0, .int 0, .int 0]), .inl (xR X 0, 4, .inr (.inr (.inr (.inr (va_up (va_up (va_up (va_up (fun _ => none) 0 (some (xB X + 26))) 1 (some (xB X + 28))) 2 (some (xB X + 30))) 3 (some (xB X + 32))))))), .inr (0, [.ref (xB X + 3), .ref (xB X + 27)]), .inl (xI X, 10, .inl (hasI)), .inr (0, [.ref (xB X + 3), .ref (xB X + 29)]), .inl (xI X, 10, .inl (hasI)), .inr (0, [.ref (xB X + 3), .ref (xB X + 31)]), .inl (xI X, 10, .inl (hasI)), .inr (0, [.ref (xB X + 3), .ref (xB X + 33)]), .inl (xI X, 10, .inl (hasI)), .inr (4, [.ref (xB X + 35), .int 0, .int 0, .int 0, .int 0, .int 0]), .inl (xI X, 120, .inl (fun _ => 0)), .inl (xR X 1, 4, .inr (.inr (.inr (.inr (fun _ => none))))), .inr (3, [.null, .int 0, .int 0])]
def Mi95 (X : xC) : List va_E := [.inr (5, [.ref (xB X + 1), .ref (xB X + 8), .ref (xB X + 15), .ref (xB X + 2), .ref (xB X + 22), .ref (xB X + 24), .ref (xB X + 34), .null, .null, .int 0]), .inr (1, [.ref (xB X + 2), .ref (xB X + 3), .ref (xB X + 5), .ref (xB X + 6), .ref (xB X + 7), .int 0, .int 1]), .inr (0, [.ref (xB X + 3), .ref (xB X + 4)]), .inl (xI X, 40, .inl (fillF 40 50 (fun _ => 0))), .inl (xI X, 10, .inl (hasI)), .inl (xI X, 10, .inl (fillF 10 (-1) (fun _ => 0))), .inl (xI X, 10, .inl (fillF 10 (-1) (fun _ => 0))), .inl (xI X, 20, .inl (fun _ => 0)), .inr (1, [.ref (xB X + 9), .ref (xB X + 10), .ref (xB X + 12), .ref (xB X + 13), .ref (xB X + 14), .int 0, .int 1]), .inr (0, [.ref (xB X + 10), .ref (xB X + 11)]), .inl (xI X, 40, .inl (fillF 40 50 (fun _ => 0))), .inl (xI X, 10, .inl (hasI)), .inl (xI X, 10, .inl (fillF 10 (-1) (fun _ => 0))), .inl (xI X, 10, .inl (fillF 10 (-1) (fun _ => 0))), .inl (xI X, 20, .inl (fun _ => 0)), .inr (1, [.ref (xB X + 16), .ref (xB X + 17), .ref (xB X + 19), .ref (xB X + 20), .ref (xB X + 21), .int 0, .int 1]), .inr (0, [.ref (xB X + 17), .ref (xB X + 18)]), .inl (xI X, 40, .inl (fillF 40 50 (fun _ => 0))), .inl (xI X, 10, .inl (hasI)), .inl (xI X, 10, .inl (fillF 10 (-1) (fun _ => 0))), .inl (xI X, 10, .inl (fillF 10 (-1) (fun _ => 0))), .inl (xI X, 20, .inl (fun _ => 0)), .inr (0, [.ref (xB X + 3), .ref (xB X + 23)]), .inl (xI X, 10, .inl (hasI)), .inr (2, [.ref (xB X + 25), .int 0, .int 0, .int 0, .int 0]), .inl (xR X 0, 4, .inr (.inr (.inr (.inr (va_up (va_up (va_up (va_up (fun _ => none) 0 (some (xB X + 26))) 1 (some (xB X + 28))) 2 (some (xB X + 30))) 3 (some (xB X + 32))))))), .inr (0, [.ref (xB X + 3), .ref (xB X + 27)]), .inl (xI X, 10, .inl (hasI)), .inr (0, [.ref (xB X + 3), .ref (xB X + 29)]), .inl (xI X, 10, .inl (hasI)), .inr (0, [.ref (xB X + 3), .ref (xB X + 31)]), .inl (xI X, 10, .inl (hasI)), .inr (0, [.ref (xB X + 3), .ref (xB X + 33)]), .inl (xI X, 10, .inl (hasI)), .inr (4, [.ref (xB X + 35), .int 0, .int 0, .int 0, .int 0, .int 0]), .inl (xI X, 120, .inl (fun _ => 0)), .inl (xR X 1, 4, .inr (.inr (.inr (.inr (fun _ => none))))), .inr (3, [.null, .int 0, .int 0])]
def Mi96 (X : xC) : List va_E := [.inr (5, [.ref (xB X + 1), .ref (xB X + 8), .ref (xB X + 15), .ref (xB X + 2), .ref (xB X + 22), .ref (xB X + 24), .ref (xB X + 34), .null, .null, .int 0]), .inr (1, [.ref (xB X + 2), .ref (xB X + 3), .ref (xB X + 5), .ref (xB X + 6), .ref (xB X + 7), .int 0, .int 1]), .inr (0, [.ref (xB X + 3), .ref (xB X + 4)]), .inl (xI X, 40, .inl (fillF 40 50 (fun _ => 0))), .inl (xI X, 10, .inl (hasI)), .inl (xI X, 10, .inl (fillF 10 (-1) (fun _ => 0))), .inl (xI X, 10, .inl (fillF 10 (-1) (fun _ => 0))), .inl (xI X, 20, .inl (fun _ => 0)), .inr (1, [.ref (xB X + 9), .ref (xB X + 10), .ref (xB X + 12), .ref (xB X + 13), .ref (xB X + 14), .int 0, .int 1]), .inr (0, [.ref (xB X + 10), .ref (xB X + 11)]), .inl (xI X, 40, .inl (fillF 40 50 (fun _ => 0))), .inl (xI X, 10, .inl (hasI)), .inl (xI X, 10, .inl (fillF 10 (-1) (fun _ => 0))), .inl (xI X, 10, .inl (fillF 10 (-1) (fun _ => 0))), .inl (xI X, 20, .inl (fun _ => 0)), .inr (1, [.ref (xB X + 16), .ref (xB X + 17), .ref (xB X + 19), .ref (xB X + 20), .ref (xB X + 21), .int 0, .int 1]), .inr (0, [.ref (xB X + 17), .ref (xB X + 18)]), .inl (xI X, 40, .inl (fillF 40 50 (fun _ => 0))), .inl (xI X, 10, .inl (hasI)), .inl (xI X, 10, .inl (fillF 10 (-1) (fun _ => 0))), .inl (xI X, 10, .inl (fillF 10 (-1) (fun _ => 0))), .inl (xI X, 20, .inl (fun _ => 0)), .inr (0, [.ref (xB X + 3), .ref (xB X + 23)]), .inl (xI X, 10, .inl (hasI)), .inr (2, [.ref (xB X + 25), .int 0, .int 0, .int 0, .int 0]), .inl (xR X 0, 4, .inr (.inr (.inr (.inr (va_up (va_up (va_up (va_up (fun _ => none) 0 (some (xB X + 26))) 1 (some (xB X + 28))) 2 (some (xB X + 30))) 3 (some (xB X + 32))))))), .inr (0, [.ref (xB X + 3), .ref (xB X + 27)]), .inl (xI X, 10, .inl (hasI)), .inr (0, [.ref (xB X + 3), .ref (xB X + 29)]), .inl (xI X, 10, .inl (hasI)), .inr (0, [.ref (xB X + 3), .ref (xB X + 31)]), .inl (xI X, 10, .inl (hasI)), .inr (0, [.ref (xB X + 3), .ref (xB X + 33)]), .inl (xI X, 10, .inl (hasI)), .inr (4, [.ref (xB X + 35), .int 0, .int 0, .int 0, .int 0, .int 0]), .inl (xI X, 120, .inl (fun _ => 0)), .inl (xR X 1, 4, .inr (.inr (.inr (.inr (fun _ => none))))), .inr (3, [.ref (xB X + 38), .int 0, .int 0]), .inl (xI X, 40, .inl (fun _ => 0))]
set_option maxRecDepth 20000 in
set_option maxHeartbeats 4000000 in
theorem wi_T_96 {X : xC} {d : Nat} : Sem X k_T_init (d + 1) 0 [some (.ref (xB X + 37))] [] (Mi95 X) none (Mi96 X) 1 40 := by
  refine ev_aload_n d_T_init_0 rfl ?_
  refine ev_objInit d_T_init_1 ml_T_3 (Nat.le_of_ble_eq_true rfl) ?_
  refine ev_aload_n d_T_init_4 rfl ?_
  refine ev_bipush d_T_init_5 ?_
  refine ev_newa (kc := 0) (ks := 0) d_T_init_7 (by decide) (N := 40) (by decide) (by decide) (c0 := 38) rfl hxI ?_
  refine ev_putF d_T_init_9 fl_T_9 ⟨_, rfl, rfl⟩ rfl rfl rfl rfl rfl (Nat.le_of_ble_eq_true rfl) ?_
  exact ev_return d_T_init_12 rfl
def Mi97 (X : xC) : List va_E := [.inr (5, [.ref (xB X + 1), .ref (xB X + 8), .ref (xB X + 15), .ref (xB X + 2), .ref (xB X + 22), .ref (xB X + 24), .ref (xB X + 34), .null, .null, .int 0]), .inr (1, [.ref (xB X + 2), .ref (xB X + 3), .ref (xB X + 5), .ref (xB X + 6), .ref (xB X + 7), .int 0, .int 1]), .inr (0, [.ref (xB X + 3), .ref (xB X + 4)]), .inl (xI X, 40, .inl (fillF 40 50 (fun _ => 0))), .inl (xI X, 10, .inl (hasI)), .inl (xI X, 10, .inl (fillF 10 (-1) (fun _ => 0))), .inl (xI X, 10, .inl (fillF 10 (-1) (fun _ => 0))), .inl (xI X, 20, .inl (fun _ => 0)), .inr (1, [.ref (xB X + 9), .ref (xB X + 10), .ref (xB X + 12), .ref (xB X + 13), .ref (xB X + 14), .int 0, .int 1]), .inr (0, [.ref (xB X + 10), .ref (xB X + 11)]), .inl (xI X, 40, .inl (fillF 40 50 (fun _ => 0))), .inl (xI X, 10, .inl (hasI)), .inl (xI X, 10, .inl (fillF 10 (-1) (fun _ => 0))), .inl (xI X, 10, .inl (fillF 10 (-1) (fun _ => 0))), .inl (xI X, 20, .inl (fun _ => 0)), .inr (1, [.ref (xB X + 16), .ref (xB X + 17), .ref (xB X + 19), .ref (xB X + 20), .ref (xB X + 21), .int 0, .int 1]), .inr (0, [.ref (xB X + 17), .ref (xB X + 18)]), .inl (xI X, 40, .inl (fillF 40 50 (fun _ => 0))), .inl (xI X, 10, .inl (hasI)), .inl (xI X, 10, .inl (fillF 10 (-1) (fun _ => 0))), .inl (xI X, 10, .inl (fillF 10 (-1) (fun _ => 0))), .inl (xI X, 20, .inl (fun _ => 0)), .inr (0, [.ref (xB X + 3), .ref (xB X + 23)]), .inl (xI X, 10, .inl (hasI)), .inr (2, [.ref (xB X + 25), .int 0, .int 0, .int 0, .int 0]), .inl (xR X 0, 4, .inr (.inr (.inr (.inr (va_up (va_up (va_up (va_up (fun _ => none) 0 (some (xB X + 26))) 1 (some (xB X + 28))) 2 (some (xB X + 30))) 3 (some (xB X + 32))))))), .inr (0, [.ref (xB X + 3), .ref (xB X + 27)]), .inl (xI X, 10, .inl (hasI)), .inr (0, [.ref (xB X + 3), .ref (xB X + 29)]), .inl (xI X, 10, .inl (hasI)), .inr (0, [.ref (xB X + 3), .ref (xB X + 31)]), .inl (xI X, 10, .inl (hasI)), .inr (0, [.ref (xB X + 3), .ref (xB X + 33)]), .inl (xI X, 10, .inl (hasI)), .inr (4, [.ref (xB X + 35), .int 0, .int 0, .int 0, .int 0, .int 0]), .inl (xI X, 120, .inl (fun _ => 0)), .inl (xR X 1, 4, .inr (.inr (.inr (.inr (va_up (fun _ => none) 0 (some (xB X + 37))))))), .inr (3, [.ref (xB X + 38), .int 0, .int 0]), .inl (xI X, 40, .inl (fun _ => 0))]
def Mi98 (X : xC) : List va_E := [.inr (5, [.ref (xB X + 1), .ref (xB X + 8), .ref (xB X + 15), .ref (xB X + 2), .ref (xB X + 22), .ref (xB X + 24), .ref (xB X + 34), .null, .null, .int 0]), .inr (1, [.ref (xB X + 2), .ref (xB X + 3), .ref (xB X + 5), .ref (xB X + 6), .ref (xB X + 7), .int 0, .int 1]), .inr (0, [.ref (xB X + 3), .ref (xB X + 4)]), .inl (xI X, 40, .inl (fillF 40 50 (fun _ => 0))), .inl (xI X, 10, .inl (hasI)), .inl (xI X, 10, .inl (fillF 10 (-1) (fun _ => 0))), .inl (xI X, 10, .inl (fillF 10 (-1) (fun _ => 0))), .inl (xI X, 20, .inl (fun _ => 0)), .inr (1, [.ref (xB X + 9), .ref (xB X + 10), .ref (xB X + 12), .ref (xB X + 13), .ref (xB X + 14), .int 0, .int 1]), .inr (0, [.ref (xB X + 10), .ref (xB X + 11)]), .inl (xI X, 40, .inl (fillF 40 50 (fun _ => 0))), .inl (xI X, 10, .inl (hasI)), .inl (xI X, 10, .inl (fillF 10 (-1) (fun _ => 0))), .inl (xI X, 10, .inl (fillF 10 (-1) (fun _ => 0))), .inl (xI X, 20, .inl (fun _ => 0)), .inr (1, [.ref (xB X + 16), .ref (xB X + 17), .ref (xB X + 19), .ref (xB X + 20), .ref (xB X + 21), .int 0, .int 1]), .inr (0, [.ref (xB X + 17), .ref (xB X + 18)]), .inl (xI X, 40, .inl (fillF 40 50 (fun _ => 0))), .inl (xI X, 10, .inl (hasI)), .inl (xI X, 10, .inl (fillF 10 (-1) (fun _ => 0))), .inl (xI X, 10, .inl (fillF 10 (-1) (fun _ => 0))), .inl (xI X, 20, .inl (fun _ => 0)), .inr (0, [.ref (xB X + 3), .ref (xB X + 23)]), .inl (xI X, 10, .inl (hasI)), .inr (2, [.ref (xB X + 25), .int 0, .int 0, .int 0, .int 0]), .inl (xR X 0, 4, .inr (.inr (.inr (.inr (va_up (va_up (va_up (va_up (fun _ => none) 0 (some (xB X + 26))) 1 (some (xB X + 28))) 2 (some (xB X + 30))) 3 (some (xB X + 32))))))), .inr (0, [.ref (xB X + 3), .ref (xB X + 27)]), .inl (xI X, 10, .inl (hasI)), .inr (0, [.ref (xB X + 3), .ref (xB X + 29)]), .inl (xI X, 10, .inl (hasI)), .inr (0, [.ref (xB X + 3), .ref (xB X + 31)]), .inl (xI X, 10, .inl (hasI)), .inr (0, [.ref (xB X + 3), .ref (xB X + 33)]), .inl (xI X, 10, .inl (hasI)), .inr (4, [.ref (xB X + 35), .int 0, .int 0, .int 0, .int 0, .int 0]), .inl (xI X, 120, .inl (fun _ => 0)), .inl (xR X 1, 4, .inr (.inr (.inr (.inr (va_up (fun _ => none) 0 (some (xB X + 37))))))), .inr (3, [.ref (xB X + 38), .int 0, .int 0]), .inl (xI X, 40, .inl (fun _ => 0)), .inr (3, [.null, .int 0, .int 0])]
def Mi99 (X : xC) : List va_E := [.inr (5, [.ref (xB X + 1), .ref (xB X + 8), .ref (xB X + 15), .ref (xB X + 2), .ref (xB X + 22), .ref (xB X + 24), .ref (xB X + 34), .null, .null, .int 0]), .inr (1, [.ref (xB X + 2), .ref (xB X + 3), .ref (xB X + 5), .ref (xB X + 6), .ref (xB X + 7), .int 0, .int 1]), .inr (0, [.ref (xB X + 3), .ref (xB X + 4)]), .inl (xI X, 40, .inl (fillF 40 50 (fun _ => 0))), .inl (xI X, 10, .inl (hasI)), .inl (xI X, 10, .inl (fillF 10 (-1) (fun _ => 0))), .inl (xI X, 10, .inl (fillF 10 (-1) (fun _ => 0))), .inl (xI X, 20, .inl (fun _ => 0)), .inr (1, [.ref (xB X + 9), .ref (xB X + 10), .ref (xB X + 12), .ref (xB X + 13), .ref (xB X + 14), .int 0, .int 1]), .inr (0, [.ref (xB X + 10), .ref (xB X + 11)]), .inl (xI X, 40, .inl (fillF 40 50 (fun _ => 0))), .inl (xI X, 10, .inl (hasI)), .inl (xI X, 10, .inl (fillF 10 (-1) (fun _ => 0))), .inl (xI X, 10, .inl (fillF 10 (-1) (fun _ => 0))), .inl (xI X, 20, .inl (fun _ => 0)), .inr (1, [.ref (xB X + 16), .ref (xB X + 17), .ref (xB X + 19), .ref (xB X + 20), .ref (xB X + 21), .int 0, .int 1]), .inr (0, [.ref (xB X + 17), .ref (xB X + 18)]), .inl (xI X, 40, .inl (fillF 40 50 (fun _ => 0))), .inl (xI X, 10, .inl (hasI)), .inl (xI X, 10, .inl (fillF 10 (-1) (fun _ => 0))), .inl (xI X, 10, .inl (fillF 10 (-1) (fun _ => 0))), .inl (xI X, 20, .inl (fun _ => 0)), .inr (0, [.ref (xB X + 3), .ref (xB X + 23)]), .inl (xI X, 10, .inl (hasI)), .inr (2, [.ref (xB X + 25), .int 0, .int 0, .int 0, .int 0]), .inl (xR X 0, 4, .inr (.inr (.inr (.inr (va_up (va_up (va_up (va_up (fun _ => none) 0 (some (xB X + 26))) 1 (some (xB X + 28))) 2 (some (xB X + 30))) 3 (some (xB X + 32))))))), .inr (0, [.ref (xB X + 3), .ref (xB X + 27)]), .inl (xI X, 10, .inl (hasI)), .inr (0, [.ref (xB X + 3), .ref (xB X + 29)]), .inl (xI X, 10, .inl (hasI)), .inr (0, [.ref (xB X + 3), .ref (xB X + 31)]), .inl (xI X, 10, .inl (hasI)), .inr (0, [.ref (xB X + 3), .ref (xB X + 33)]), .inl (xI X, 10, .inl (hasI)), .inr (4, [.ref (xB X + 35), .int 0, .int 0, .int 0, .int 0, .int 0]), .inl (xI X, 120, .inl (fun _ => 0)), .inl (xR X 1, 4, .inr (.inr (.inr (.inr (va_up (fun _ => none) 0 (some (xB X + 37))))))), .inr (3, [.ref (xB X + 38), .int 0, .int 0]), .inl (xI X, 40, .inl (fun _ => 0)), .inr (3, [.null, .int 0, .int 0])]
def Mi100 (X : xC) : List va_E := [.inr (5, [.ref (xB X + 1), .ref (xB X + 8), .ref (xB X + 15), .ref (xB X + 2), .ref (xB X + 22), .ref (xB X + 24), .ref (xB X + 34), .null, .null, .int 0]), .inr (1, [.ref (xB X + 2), .ref (xB X + 3), .ref (xB X + 5), .ref (xB X + 6), .ref (xB X + 7), .int 0, .int 1]), .inr (0, [.ref (xB X + 3), .ref (xB X + 4)]), .inl (xI X, 40, .inl (fillF 40 50 (fun _ => 0))), .inl (xI X, 10, .inl (hasI)), .inl (xI X, 10, .inl (fillF 10 (-1) (fun _ => 0))), .inl (xI X, 10, .inl (fillF 10 (-1) (fun _ => 0))), .inl (xI X, 20, .inl (fun _ => 0)), .inr (1, [.ref (xB X + 9), .ref (xB X + 10), .ref (xB X + 12), .ref (xB X + 13), .ref (xB X + 14), .int 0, .int 1]), .inr (0, [.ref (xB X + 10), .ref (xB X + 11)]), .inl (xI X, 40, .inl (fillF 40 50 (fun _ => 0))), .inl (xI X, 10, .inl (hasI)), .inl (xI X, 10, .inl (fillF 10 (-1) (fun _ => 0))), .inl (xI X, 10, .inl (fillF 10 (-1) (fun _ => 0))), .inl (xI X, 20, .inl (fun _ => 0)), .inr (1, [.ref (xB X + 16), .ref (xB X + 17), .ref (xB X + 19), .ref (xB X + 20), .ref (xB X + 21), .int 0, .int 1]), .inr (0, [.ref (xB X + 17), .ref (xB X + 18)]), .inl (xI X, 40, .inl (fillF 40 50 (fun _ => 0))), .inl (xI X, 10, .inl (hasI)), .inl (xI X, 10, .inl (fillF 10 (-1) (fun _ => 0))), .inl (xI X, 10, .inl (fillF 10 (-1) (fun _ => 0))), .inl (xI X, 20, .inl (fun _ => 0)), .inr (0, [.ref (xB X + 3), .ref (xB X + 23)]), .inl (xI X, 10, .inl (hasI)), .inr (2, [.ref (xB X + 25), .int 0, .int 0, .int 0, .int 0]), .inl (xR X 0, 4, .inr (.inr (.inr (.inr (va_up (va_up (va_up (va_up (fun _ => none) 0 (some (xB X + 26))) 1 (some (xB X + 28))) 2 (some (xB X + 30))) 3 (some (xB X + 32))))))), .inr (0, [.ref (xB X + 3), .ref (xB X + 27)]), .inl (xI X, 10, .inl (hasI)), .inr (0, [.ref (xB X + 3), .ref (xB X + 29)]), .inl (xI X, 10, .inl (hasI)), .inr (0, [.ref (xB X + 3), .ref (xB X + 31)]), .inl (xI X, 10, .inl (hasI)), .inr (0, [.ref (xB X + 3), .ref (xB X + 33)]), .inl (xI X, 10, .inl (hasI)), .inr (4, [.ref (xB X + 35), .int 0, .int 0, .int 0, .int 0, .int 0]), .inl (xI X, 120, .inl (fun _ => 0)), .inl (xR X 1, 4, .inr (.inr (.inr (.inr (va_up (fun _ => none) 0 (some (xB X + 37))))))), .inr (3, [.ref (xB X + 38), .int 0, .int 0]), .inl (xI X, 40, .inl (fun _ => 0)), .inr (3, [.ref (xB X + 40), .int 0, .int 0]), .inl (xI X, 40, .inl (fun _ => 0))]
set_option maxRecDepth 20000 in
set_option maxHeartbeats 4000000 in
theorem wi_T_100 {X : xC} {d : Nat} : Sem X k_T_init (d + 1) 0 [some (.ref (xB X + 39))] [] (Mi99 X) none (Mi100 X) 1 40 := by
  refine ev_aload_n d_T_init_0 rfl ?_
  refine ev_objInit d_T_init_1 ml_T_3 (Nat.le_of_ble_eq_true rfl) ?_
  refine ev_aload_n d_T_init_4 rfl ?_
  refine ev_bipush d_T_init_5 ?_
  refine ev_newa (kc := 0) (ks := 0) d_T_init_7 (by decide) (N := 40) (by decide) (by decide) (c0 := 40) rfl hxI ?_
  refine ev_putF d_T_init_9 fl_T_9 ⟨_, rfl, rfl⟩ rfl rfl rfl rfl rfl (Nat.le_of_ble_eq_true rfl) ?_
  exact ev_return d_T_init_12 rfl
def Mi101 (X : xC) : List va_E := [.inr (5, [.ref (xB X + 1), .ref (xB X + 8), .ref (xB X + 15), .ref (xB X + 2), .ref (xB X + 22), .ref (xB X + 24), .ref (xB X + 34), .null, .null, .int 0]), .inr (1, [.ref (xB X + 2), .ref (xB X + 3), .ref (xB X + 5), .ref (xB X + 6), .ref (xB X + 7), .int 0, .int 1]), .inr (0, [.ref (xB X + 3), .ref (xB X + 4)]), .inl (xI X, 40, .inl (fillF 40 50 (fun _ => 0))), .inl (xI X, 10, .inl (hasI)), .inl (xI X, 10, .inl (fillF 10 (-1) (fun _ => 0))), .inl (xI X, 10, .inl (fillF 10 (-1) (fun _ => 0))), .inl (xI X, 20, .inl (fun _ => 0)), .inr (1, [.ref (xB X + 9), .ref (xB X + 10), .ref (xB X + 12), .ref (xB X + 13), .ref (xB X + 14), .int 0, .int 1]), .inr (0, [.ref (xB X + 10), .ref (xB X + 11)]), .inl (xI X, 40, .inl (fillF 40 50 (fun _ => 0))), .inl (xI X, 10, .inl (hasI)), .inl (xI X, 10, .inl (fillF 10 (-1) (fun _ => 0))), .inl (xI X, 10, .inl (fillF 10 (-1) (fun _ => 0))), .inl (xI X, 20, .inl (fun _ => 0)), .inr (1, [.ref (xB X + 16), .ref (xB X + 17), .ref (xB X + 19), .ref (xB X + 20), .ref (xB X + 21), .int 0, .int 1]), .inr (0, [.ref (xB X + 17), .ref (xB X + 18)]), .inl (xI X, 40, .inl (fillF 40 50 (fun _ => 0))), .inl (xI X, 10, .inl (hasI)), .inl (xI X, 10, .inl (fillF 10 (-1) (fun _ => 0))), .inl (xI X, 10, .inl (fillF 10 (-1) (fun _ => 0))), .inl (xI X, 20, .inl (fun _ => 0)), .inr (0, [.ref (xB X + 3), .ref (xB X + 23)]), .inl (xI X, 10, .inl (hasI)), .inr (2, [.ref (xB X + 25), .int 0, .int 0, .int 0, .int 0]), .inl (xR X 0, 4, .inr (.inr (.inr (.inr (va_up (va_up (va_up (va_up (fun _ => none) 0 (some (xB X + 26))) 1 (some (xB X + 28))) 2 (some (xB X + 30))) 3 (some (xB X + 32))))))), .inr (0, [.ref (xB X + 3), .ref (xB X + 27)]), .inl (xI X, 10, .inl (hasI)), .inr (0, [.ref (xB X + 3), .ref (xB X + 29)]), .inl (xI X, 10, .inl (hasI)), .inr (0, [.ref (xB X + 3), .ref (xB X + 31)]), .inl (xI X, 10, .inl (hasI)), .inr (0, [.ref (xB X + 3), .ref (xB X + 33)]), .inl (xI X, 10, .inl (hasI)), .inr (4, [.ref (xB X + 35), .int 0, .int 0, .int 0, .int 0, .int 0]), .inl (xI X, 120, .inl (fun _ => 0)), .inl (xR X 1, 4, .inr (.inr (.inr (.inr (va_up (va_up (fun _ => none) 0 (some (xB X + 37))) 1 (some (xB X + 39))))))), .inr (3, [.ref (xB X + 38), .int 0, .int 0]), .inl (xI X, 40, .inl (fun _ => 0)), .inr (3, [.ref (xB X + 40), .int 0, .int 0]), .inl (xI X, 40, .inl (fun _ => 0))]
def Mi102 (X : xC) : List va_E := [.inr (5, [.ref (xB X + 1), .ref (xB X + 8), .ref (xB X + 15), .ref (xB X + 2), .ref (xB X + 22), .ref (xB X + 24), .ref (xB X + 34), .null, .null, .int 0]), .inr (1, [.ref (xB X + 2), .ref (xB X + 3), .ref (xB X + 5), .ref (xB X + 6), .ref (xB X + 7), .int 0, .int 1]), .inr (0, [.ref (xB X + 3), .ref (xB X + 4)]), .inl (xI X, 40, .inl (fillF 40 50 (fun _ => 0))), .inl (xI X, 10, .inl (hasI)), .inl (xI X, 10, .inl (fillF 10 (-1) (fun _ => 0))), .inl (xI X, 10, .inl (fillF 10 (-1) (fun _ => 0))), .inl (xI X, 20, .inl (fun _ => 0)), .inr (1, [.ref (xB X + 9), .ref (xB X + 10), .ref (xB X + 12), .ref (xB X + 13), .ref (xB X + 14), .int 0, .int 1]), .inr (0, [.ref (xB X + 10), .ref (xB X + 11)]), .inl (xI X, 40, .inl (fillF 40 50 (fun _ => 0))), .inl (xI X, 10, .inl (hasI)), .inl (xI X, 10, .inl (fillF 10 (-1) (fun _ => 0))), .inl (xI X, 10, .inl (fillF 10 (-1) (fun _ => 0))), .inl (xI X, 20, .inl (fun _ => 0)), .inr (1, [.ref (xB X + 16), .ref (xB X + 17), .ref (xB X + 19), .ref (xB X + 20), .ref (xB X + 21), .int 0, .int 1]), .inr (0, [.ref (xB X + 17), .ref (xB X + 18)]), .inl (xI X, 40, .inl (fillF 40 50 (fun _ => 0))), .inl (xI X, 10, .inl (hasI)), .inl (xI X, 10, .inl (fillF 10 (-1) (fun _ => 0))), .inl (xI X, 10, .inl (fillF 10 (-1) (fun _ => 0))), .inl (xI X, 20, .inl (fun _ => 0)), .inr (0, [.ref (xB X + 3), .ref (xB X + 23)]), .inl (xI X, 10, .inl (hasI)), .inr (2, [.ref (xB X + 25), .int 0, .int 0, .int 0, .int 0]), .inl (xR X 0, 4, .inr (.inr (.inr (.inr (va_up (va_up (va_up (va_up (fun _ => none) 0 (some (xB X + 26))) 1 (some (xB X + 28))) 2 (some (xB X + 30))) 3 (some (xB X + 32))))))), .inr (0, [.ref (xB X + 3), .ref (xB X + 27)]), .inl (xI X, 10, .inl (hasI)), .inr (0, [.ref (xB X + 3), .ref (xB X + 29)]), .inl (xI X, 10, .inl (hasI)), .inr (0, [.ref (xB X + 3), .ref (xB X + 31)]), .inl (xI X, 10, .inl (hasI)), .inr (0, [.ref (xB X + 3), .ref (xB X + 33)]), .inl (xI X, 10, .inl (hasI)), .inr (4, [.ref (xB X + 35), .int 0, .int 0, .int 0, .int 0, .int 0]), .inl (xI X, 120, .inl (fun _ => 0)), .inl (xR X 1, 4, .inr (.inr (.inr (.inr (va_up (va_up (fun _ => none) 0 (some (xB X + 37))) 1 (some (xB X + 39))))))), .inr (3, [.ref (xB X + 38), .int 0, .int 0]), .inl (xI X, 40, .inl (fun _ => 0)), .inr (3, [.ref (xB X + 40), .int 0, .int 0]), .inl (xI X, 40, .inl (fun _ => 0)), .inr (3, [.null, .int 0, .int 0])]
def Mi103 (X : xC) : List va_E := [.inr (5, [.ref (xB X + 1), .ref (xB X + 8), .ref (xB X + 15), .ref (xB X + 2), .ref (xB X + 22), .ref (xB X + 24), .ref (xB X + 34), .null, .null, .int 0]), .inr (1, [.ref (xB X + 2), .ref (xB X + 3), .ref (xB X + 5), .ref (xB X + 6), .ref (xB X + 7), .int 0, .int 1]), .inr (0, [.ref (xB X + 3), .ref (xB X + 4)]), .inl (xI X, 40, .inl (fillF 40 50 (fun _ => 0))), .inl (xI X, 10, .inl (hasI)), .inl (xI X, 10, .inl (fillF 10 (-1) (fun _ => 0))), .inl (xI X, 10, .inl (fillF 10 (-1) (fun _ => 0))), .inl (xI X, 20, .inl (fun _ => 0)), .inr (1, [.ref (xB X + 9), .ref (xB X + 10), .ref (xB X + 12), .ref (xB X + 13), .ref (xB X + 14), .int 0, .int 1]), .inr (0, [.ref (xB X + 10), .ref (xB X + 11)]), .inl (xI X, 40, .inl (fillF 40 50 (fun _ => 0))), .inl (xI X, 10, .inl (hasI)), .inl (xI X, 10, .inl (fillF 10 (-1) (fun _ => 0))), .inl (xI X, 10, .inl (fillF 10 (-1) (fun _ => 0))), .inl (xI X, 20, .inl (fun _ => 0)), .inr (1, [.ref (xB X + 16), .ref (xB X + 17), .ref (xB X + 19), .ref (xB X + 20), .ref (xB X + 21), .int 0, .int 1]), .inr (0, [.ref (xB X + 17), .ref (xB X + 18)]), .inl (xI X, 40, .inl (fillF 40 50 (fun _ => 0))), .inl (xI X, 10, .inl (hasI)), .inl (xI X, 10, .inl (fillF 10 (-1) (fun _ => 0))), .inl (xI X, 10, .inl (fillF 10 (-1) (fun _ => 0))), .inl (xI X, 20, .inl (fun _ => 0)), .inr (0, [.ref (xB X + 3), .ref (xB X + 23)]), .inl (xI X, 10, .inl (hasI)), .inr (2, [.ref (xB X + 25), .int 0, .int 0, .int 0, .int 0]), .inl (xR X 0, 4, .inr (.inr (.inr (.inr (va_up (va_up (va_up (va_up (fun _ => none) 0 (some (xB X + 26))) 1 (some (xB X + 28))) 2 (some (xB X + 30))) 3 (some (xB X + 32))))))), .inr (0, [.ref (xB X + 3), .ref (xB X + 27)]), .inl (xI X, 10, .inl (hasI)), .inr (0, [.ref (xB X + 3), .ref (xB X + 29)]), .inl (xI X, 10, .inl (hasI)), .inr (0, [.ref (xB X + 3), .ref (xB X + 31)]), .inl (xI X, 10, .inl (hasI)), .inr (0, [.ref (xB X + 3), .ref (xB X + 33)]), .inl (xI X, 10, .inl (hasI)), .inr (4, [.ref (xB X + 35), .int 0, .int 0, .int 0, .int 0, .int 0]), .inl (xI X, 120, .inl (fun _ => 0)), .inl (xR X 1, 4, .inr (.inr (.inr (.inr (va_up (va_up (fun _ => none) 0 (some (xB X + 37))) 1 (some (xB X + 39))))))), .inr (3, [.ref (xB X + 38), .int 0, .int 0]), .inl (xI X, 40, .inl (fun _ => 0)), .inr (3, [.ref (xB X + 40), .int 0, .int 0]), .inl (xI X, 40, .inl (fun _ => 0)), .inr (3, [.null, .int 0, .int 0])]
def Mi104 (X : xC) : List va_E := [.inr (5, [.ref (xB X + 1), .ref (xB X + 8), .ref (xB X + 15), .ref (xB X + 2), .ref (xB X + 22), .ref (xB X + 24), .ref (xB X + 34), .null, .null, .int 0]), .inr (1, [.ref (xB X + 2), .ref (xB X + 3), .ref (xB X + 5), .ref (xB X + 6), .ref (xB X + 7), .int 0, .int 1]), .inr (0, [.ref (xB X + 3), .ref (xB X + 4)]), .inl (xI X, 40, .inl (fillF 40 50 (fun _ => 0))), .inl (xI X, 10, .inl (hasI)), .inl (xI X, 10, .inl (fillF 10 (-1) (fun _ => 0))), .inl (xI X, 10, .inl (fillF 10 (-1) (fun _ => 0))), .inl (xI X, 20, .inl (fun _ => 0)), .inr (1, [.ref (xB X + 9), .ref (xB X + 10), .ref (xB X + 12), .ref (xB X + 13), .ref (xB X + 14), .int 0, .int 1]), .inr (0, [.ref (xB X + 10), .ref (xB X + 11)]), .inl (xI X, 40, .inl (fillF 40 50 (fun _ => 0))), .inl (xI X, 10, .inl (hasI)), .inl (xI X, 10, .inl (fillF 10 (-1) (fun _ => 0))), .inl (xI X, 10, .inl (fillF 10 (-1) (fun _ => 0))), .inl (xI X, 20, .inl (fun _ => 0)), .inr (1, [.ref (xB X + 16), .ref (xB X + 17), .ref (xB X + 19), .ref (xB X + 20), .ref (xB X + 21), .int 0, .int 1]), .inr (0, [.ref (xB X + 17), .ref (xB X + 18)]), .inl (xI X, 40, .inl (fillF 40 50 (fun _ => 0))), .inl (xI X, 10, .inl (hasI)), .inl (xI X, 10, .inl (fillF 10 (-1) (fun _ => 0))), .inl (xI X, 10, .inl (fillF 10 (-1) (fun _ => 0))), .inl (xI X, 20, .inl (fun _ => 0)), .inr (0, [.ref (xB X + 3), .ref (xB X + 23)]), .inl (xI X, 10, .inl (hasI)), .inr (2, [.ref (xB X + 25), .int 0, .int 0, .int 0, .int 0]), .inl (xR X 0, 4, .inr (.inr (.inr (.inr (va_up (va_up (va_up (va_up (fun _ => none) 0 (some (xB X + 26))) 1 (some (xB X + 28))) 2 (some (xB X + 30))) 3 (some (xB X + 32))))))), .inr (0, [.ref (xB X + 3), .ref (xB X + 27)]), .inl (xI X, 10, .inl (hasI)), .inr (0, [.ref (xB X + 3), .ref (xB X + 29)]), .inl (xI X, 10, .inl (hasI)), .inr (0, [.ref (xB X + 3), .ref (xB X + 31)]), .inl (xI X, 10, .inl (hasI)), .inr (0, [.ref (xB X + 3), .ref (xB X + 33)]), .inl (xI X, 10, .inl (hasI)), .inr (4, [.ref (xB X + 35), .int 0, .int 0, .int 0, .int 0, .int 0]), .inl (xI X, 120, .inl (fun _ => 0)), .inl (xR X 1, 4, .inr (.inr (.inr (.inr (va_up (va_up (fun _ => none) 0 (some (xB X + 37))) 1 (some (xB X + 39))))))), .inr (3, [.ref (xB X + 38), .int 0, .int 0]), .inl (xI X, 40, .inl (fun _ => 0)), .inr (3, [.ref (xB X + 40), .int 0, .int 0]), .inl (xI X, 40, .inl (fun _ => 0)), .inr (3, [.ref (xB X + 42), .int 0, .int 0]), .inl (xI X, 40, .inl (fun _ => 0))]
set_option maxRecDepth 20000 in
set_option maxHeartbeats 4000000 in
theorem wi_T_104 {X : xC} {d : Nat} : Sem X k_T_init (d + 1) 0 [some (.ref (xB X + 41))] [] (Mi103 X) none (Mi104 X) 1 40 := by
  refine ev_aload_n d_T_init_0 rfl ?_
  refine ev_objInit d_T_init_1 ml_T_3 (Nat.le_of_ble_eq_true rfl) ?_
  refine ev_aload_n d_T_init_4 rfl ?_
  refine ev_bipush d_T_init_5 ?_
  refine ev_newa (kc := 0) (ks := 0) d_T_init_7 (by decide) (N := 40) (by decide) (by decide) (c0 := 42) rfl hxI ?_
  refine ev_putF d_T_init_9 fl_T_9 ⟨_, rfl, rfl⟩ rfl rfl rfl rfl rfl (Nat.le_of_ble_eq_true rfl) ?_
  exact ev_return d_T_init_12 rfl
def Mi105 (X : xC) : List va_E := [.inr (5, [.ref (xB X + 1), .ref (xB X + 8), .ref (xB X + 15), .ref (xB X + 2), .ref (xB X + 22), .ref (xB X + 24), .ref (xB X + 34), .null, .null, .int 0]), .inr (1, [.ref (xB X + 2), .ref (xB X + 3), .ref (xB X + 5), .ref (xB X + 6), .ref (xB X + 7), .int 0, .int 1]), .inr (0, [.ref (xB X + 3), .ref (xB X + 4)]), .inl (xI X, 40, .inl (fillF 40 50 (fun _ => 0))), .inl (xI X, 10, .inl (hasI)), .inl (xI X, 10, .inl (fillF 10 (-1) (fun _ => 0))), .inl (xI X, 10, .inl (fillF 10 (-1) (fun _ => 0))), .inl (xI X, 20, .inl (fun _ => 0)), .inr (1, [.ref (xB X + 9), .ref (xB X + 10), .ref (xB X + 12), .ref (xB X + 13), .ref (xB X + 14), .int 0, .int 1]), .inr (0, [.ref (xB X + 10), .ref (xB X + 11)]), .inl (xI X, 40, .inl (fillF 40 50 (fun _ => 0))), .inl (xI X, 10, .inl (hasI)), .inl (xI X, 10, .inl (fillF 10 (-1) (fun _ => 0))), .inl (xI X, 10, .inl (fillF 10 (-1) (fun _ => 0))), .inl (xI X, 20, .inl (fun _ => 0)), .inr (1, [.ref (xB X + 16), .ref (xB X + 17), .ref (xB X + 19), .ref (xB X + 20), .ref (xB X + 21), .int 0, .int 1]), .inr (0, [.ref (xB X + 17), .ref (xB X + 18)]), .inl (xI X, 40, .inl (fillF 40 50 (fun _ => 0))), .inl (xI X, 10, .inl (hasI)), .inl (xI X, 10, .inl (fillF 10 (-1) (fun _ => 0))), .inl (xI X, 10, .inl (fillF 10 (-1) (fun _ => 0))), .inl (xI X, 20, .inl (fun _ => 0)), .inr (0, [.ref (xB X + 3), .ref (xB X + 23)]), .inl (xI X, 10, .inl (hasI)), .inr (2, [.ref (xB X + 25), .int 0, .int 0, .int 0, .int 0]), .inl (xR X 0, 4, .inr (.inr (.inr (.inr (va_up (va_up (va_up (va_up (fun _ => none) 0 (some (xB X + 26))) 1 (some (xB X + 28))) 2 (some (xB X + 30))) 3 (some (xB X + 32))))))), .inr (0, [.ref (xB X + 3), .ref (xB X + 27)]), .inl (xI X, 10, .inl (hasI)), .inr (0, [.ref (xB X + 3), .ref (xB X + 29)]), .inl (xI X, 10, .inl (hasI)), .inr (0, [.ref (xB X + 3), .ref (xB X + 31)]), .inl (xI X, 10, .inl (hasI)), .inr (0, [.ref (xB X + 3), .ref (xB X + 33)]), .inl (xI X, 10, .inl (hasI)), .inr (4, [.ref (xB X + 35), .int 0, .int 0, .int 0, .int 0, .int 0]), .inl (xI X, 120, .inl (fun _ => 0)), .inl (xR X 1, 4, .inr (.inr (.inr (.inr (va_up (va_up (va_up (fun _ => none) 0 (some (xB X + 37))) 1 (some (xB X + 39))) 2 (some (xB X + 41))))))), .inr (3, [.ref (xB X + 38), .int 0, .int 0]), .inl (xI X, 40, .inl (fun _ => 0)), .inr (3, [.ref (xB X + 40), .int 0, .int 0]), .inl (xI X, 40, .inl (fun _ => 0)), .inr (3, [.ref (xB X + 42), .int 0, .int 0]), .inl (xI X, 40, .inl (fun _ => 0))]
def Mi106 (X : xC) : List va_E := [.inr (5, [.ref (xB X + 1), .ref (xB X + 8), .ref (xB X + 15), .ref (xB X + 2), .ref (xB X + 22), .ref (xB X + 24), .ref (xB X + 34), .null, .null, .int 0]), .inr (1, [.ref (xB X + 2), .ref (xB X + 3), .ref (xB X + 5), .ref (xB X + 6), .ref (xB X + 7), .int 0, .int 1]), .inr (0, [.ref (xB X + 3), .ref (xB X + 4)]), .inl (xI X, 40, .inl (fillF 40 50 (fun _ => 0))), .inl (xI X, 10, .inl (hasI)), .inl (xI X, 10, .inl (fillF 10 (-1) (fun _ => 0))), .inl (xI X, 10, .inl (fillF 10 (-1) (fun _ => 0))), .inl (xI X, 20, .inl (fun _ => 0)), .inr (1, [.ref (xB X + 9), .ref (xB X + 10), .ref (xB X + 12), .ref (xB X + 13), .ref (xB X + 14), .int 0, .int 1]), .inr (0, [.ref (xB X + 10), .ref (xB X + 11)]), .inl (xI X, 40, .inl (fillF 40 50 (fun _ => 0))), .inl (xI X, 10, .inl (hasI)), .inl (xI X, 10, .inl (fillF 10 (-1) (fun _ => 0))), .inl (xI X, 10, .inl (fillF 10 (-1) (fun _ => 0))), .inl (xI X, 20, .inl (fun _ => 0)), .inr (1, [.ref (xB X + 16), .ref (xB X + 17), .ref (xB X + 19), .ref (xB X + 20), .ref (xB X + 21), .int 0, .int 1]), .inr (0, [.ref (xB X + 17), .ref (xB X + 18)]), .inl (xI X, 40, .inl (fillF 40 50 (fun _ => 0))), .inl (xI X, 10, .inl (hasI)), .inl (xI X, 10, .inl (fillF 10 (-1) (fun _ => 0))), .inl (xI X, 10, .inl (fillF 10 (-1) (fun _ => 0))), .inl (xI X, 20, .inl (fun _ => 0)), .inr (0, [.ref (xB X + 3), .ref (xB X + 23)]), .inl (xI X, 10, .inl (hasI)), .inr (2, [.ref (xB X + 25), .int 0, .int 0, .int 0, .int 0]), .inl (xR X 0, 4, .inr (.inr (.inr (.inr (va_up (va_up (va_up (va_up (fun _ => none) 0 (some (xB X + 26))) 1 (some (xB X + 28))) 2 (some (xB X + 30))) 3 (some (xB X + 32))))))), .inr (0, [.ref (xB X + 3), .ref (xB X + 27)]), .inl (xI X, 10, .inl (hasI)), .inr (0, [.ref (xB X + 3), .ref (xB X + 29)]), .inl (xI X, 10, .inl (hasI)), .inr (0, [.ref (xB X + 3), .ref (xB X + 31)]), .inl (xI X, 10, .inl (hasI)), .inr (0, [.ref (xB X + 3), .ref (xB X + 33)]), .inl (xI X, 10, .inl (hasI)), .inr (4, [.ref (xB X + 35), .int 0, .int 0, .int 0, .int 0, .int 0]), .inl (xI X, 120, .inl (fun _ => 0)), .inl (xR X 1, 4, .inr (.inr (.inr (.inr (va_up (va_up (va_up (fun _ => none) 0 (some (xB X + 37))) 1 (some (xB X + 39))) 2 (some (xB X + 41))))))), .inr (3, [.ref (xB X + 38), .int 0, .int 0]), .inl (xI X, 40, .inl (fun _ => 0)), .inr (3, [.ref (xB X + 40), .int 0, .int 0]), .inl (xI X, 40, .inl (fun _ => 0)), .inr (3, [.ref (xB X + 42), .int 0, .int 0]), .inl (xI X, 40, .inl (fun _ => 0)), .inr (3, [.null, .int 0, .int 0])]
def Mi107 (X : xC) : List va_E := [.inr (5, [.ref (xB X + 1), .ref (xB X + 8), .ref (xB X + 15), .ref (xB X + 2), .ref (xB X + 22), .ref (xB X + 24), .ref (xB X + 34), .null, .null, .int 0]), .inr (1, [.ref (xB X + 2), .ref (xB X + 3), .ref (xB X + 5), .ref (xB X + 6), .ref (xB X + 7), .int 0, .int 1]), .inr (0, [.ref (xB X + 3), .ref (xB X + 4)]), .inl (xI X, 40, .inl (fillF 40 50 (fun _ => 0))), .inl (xI X, 10, .inl (hasI)), .inl (xI X, 10, .inl (fillF 10 (-1) (fun _ => 0))), .inl (xI X, 10, .inl (fillF 10 (-1) (fun _ => 0))), .inl (xI X, 20, .inl (fun _ => 0)), .inr (1, [.ref (xB X + 9), .ref (xB X + 10), .ref (xB X + 12), .ref (xB X + 13), .ref (xB X + 14), .int 0, .int 1]), .inr (0, [.ref (xB X + 10), .ref (xB X + 11)]), .inl (xI X, 40, .inl (fillF 40 50 (fun _ => 0))), .inl (xI X, 10, .inl (hasI)), .inl (xI X, 10, .inl (fillF 10 (-1) (fun _ => 0))), .inl (xI X, 10, .inl (fillF 10 (-1) (fun _ => 0))), .inl (xI X, 20, .inl (fun _ => 0)), .inr (1, [.ref (xB X + 16), .ref (xB X + 17), .ref (xB X + 19), .ref (xB X + 20), .ref (xB X + 21), .int 0, .int 1]), .inr (0, [.ref (xB X + 17), .ref (xB X + 18)]), .inl (xI X, 40, .inl (fillF 40 50 (fun _ => 0))), .inl (xI X, 10, .inl (hasI)), .inl (xI X, 10, .inl (fillF 10 (-1) (fun _ => 0))), .inl (xI X, 10, .inl (fillF 10 (-1) (fun _ => 0))), .inl (xI X, 20, .inl (fun _ => 0)), .inr (0, [.ref (xB X + 3), .ref (xB X + 23)]), .inl (xI X, 10, .inl (hasI)), .inr (2, [.ref (xB X + 25), .int 0, .int 0, .int 0, .int 0]), .inl (xR X 0, 4, .inr (.inr (.inr (.inr (va_up (va_up (va_up (va_up (fun _ => none) 0 (some (xB X + 26))) 1 (some (xB X + 28))) 2 (some (xB X + 30))) 3 (some (xB X + 32))))))), .inr (0, [.ref (xB X + 3), .ref (xB X + 27)]), .inl (xI X, 10, .inl (hasI)), .inr (0, [.ref (xB X + 3), .ref (xB X + 29)]), .inl (xI X, 10, .inl (hasI)), .inr (0, [.ref (xB X + 3), .ref (xB X + 31)]), .inl (xI X, 10, .inl (hasI)), .inr (0, [.ref (xB X + 3), .ref (xB X + 33)]), .inl (xI X, 10, .inl (hasI)), .inr (4, [.ref (xB X + 35), .int 0, .int 0, .int 0, .int 0, .int 0]), .inl (xI X, 120, .inl (fun _ => 0)), .inl (xR X 1, 4, .inr (.inr (.inr (.inr (va_up (va_up (va_up (fun _ => none) 0 (some (xB X + 37))) 1 (some (xB X + 39))) 2 (some (xB X + 41))))))), .inr (3, [.ref (xB X + 38), .int 0, .int 0]), .inl (xI X, 40, .inl (fun _ => 0)), .inr (3, [.ref (xB X + 40), .int 0, .int 0]), .inl (xI X, 40, .inl (fun _ => 0)), .inr (3, [.ref (xB X + 42), .int 0, .int 0]), .inl (xI X, 40, .inl (fun _ => 0)), .inr (3, [.null, .int 0, .int 0])]
def Mi108 (X : xC) : List va_E := [.inr (5, [.ref (xB X + 1), .ref (xB X + 8), .ref (xB X + 15), .ref (xB X + 2), .ref (xB X + 22), .ref (xB X + 24), .ref (xB X + 34), .null, .null, .int 0]), .inr (1, [.ref (xB X + 2), .ref (xB X + 3), .ref (xB X + 5), .ref (xB X + 6), .ref (xB X + 7), .int 0, .int 1]), .inr (0, [.ref (xB X + 3), .ref (xB X + 4)]), .inl (xI X, 40, .inl (fillF 40 50 (fun _ => 0))), .inl (xI X, 10, .inl (hasI)), .inl (xI X, 10, .inl (fillF 10 (-1) (fun _ => 0))), .inl (xI X, 10, .inl (fillF 10 (-1) (fun _ => 0))), .inl (xI X, 20, .inl (fun _ => 0)), .inr (1, [.ref (xB X + 9), .ref (xB X + 10), .ref (xB X + 12), .ref (xB X + 13), .ref (xB X + 14), .int 0, .int 1]), .inr (0, [.ref (xB X + 10), .ref (xB X + 11)]), .inl (xI X, 40, .inl (fillF 40 50 (fun _ => 0))), .inl (xI X, 10, .inl (hasI)), .inl (xI X, 10, .inl (fillF 10 (-1) (fun _ => 0))), .inl (xI X, 10, .inl (fillF 10 (-1) (fun _ => 0))), .inl (xI X, 20, .inl (fun _ => 0)), .inr (1, [.ref (xB X + 16), .ref (xB X + 17), .ref (xB X + 19), .ref (xB X + 20), .ref (xB X + 21), .int 0, .int 1]), .inr (0, [.ref (xB X + 17), .ref (xB X + 18)]), .inl (xI X, 40, .inl (fillF 40 50 (fun _ => 0))), .inl (xI X, 10, .inl (hasI)), .inl (xI X, 10, .inl (fillF 10 (-1) (fun _ => 0))), .inl (xI X, 10, .inl (fillF 10 (-1) (fun _ => 0))), .inl (xI X, 20, .inl (fun _ => 0)), .inr (0, [.ref (xB X + 3), .ref (xB X + 23)]), .inl (xI X, 10, .inl (hasI)), .inr (2, [.ref (xB X + 25), .int 0, .int 0, .int 0, .int 0]), .inl (xR X 0, 4, .inr (.inr (.inr (.inr (va_up (va_up (va_up (va_up (fun _ => none) 0 (some (xB X + 26))) 1 (some (xB X + 28))) 2 (some (xB X + 30))) 3 (some (xB X + 32))))))), .inr (0, [.ref (xB X + 3), .ref (xB X + 27)]), .inl (xI X, 10, .inl (hasI)), .inr (0, [.ref (xB X + 3), .ref (xB X + 29)]), .inl (xI X, 10, .inl (hasI)), .inr (0, [.ref (xB X + 3), .ref (xB X + 31)]), .inl (xI X, 10, .inl (hasI)), .inr (0, [.ref (xB X + 3), .ref (xB X + 33)]), .inl (xI X, 10, .inl (hasI)), .inr (4, [.ref (xB X + 35), .int 0, .int 0, .int 0, .int 0, .int 0]), .inl (xI X, 120, .inl (fun _ => 0)), .inl (xR X 1, 4, .inr (.inr (.inr (.inr (va_up (va_up (va_up (fun _ => none) 0 (some (xB X + 37))) 1 (some (xB X + 39))) 2 (some (xB X + 41))))))), .inr (3, [.ref (xB X + 38), .int 0, .int 0]), .inl (xI X, 40, .inl (fun _ => 0)), .inr (3, [.ref (xB X + 40), .int 0, .int 0]), .inl (xI X, 40, .inl (fun _ => 0)), .inr (3, [.ref (xB X + 42), .int 0, .int 0]), .inl (xI X, 40, .inl (fun _ => 0)), .inr (3, [.ref (xB X + 44), .int 0, .int 0]), .inl (xI X, 40, .inl (fun _ => 0))]
set_option maxRecDepth 20000 in
set_option maxHeartbeats 4000000 in
theorem wi_T_108 {X : xC} {d : Nat} : Sem X k_T_init (d + 1) 0 [some (.ref (xB X + 43))] [] (Mi107 X) none (Mi108 X) 1 40 := by
  refine ev_aload_n d_T_init_0 rfl ?_
  refine ev_objInit d_T_init_1 ml_T_3 (Nat.le_of_ble_eq_true rfl) ?_
  refine ev_aload_n d_T_init_4 rfl ?_
  refine ev_bipush d_T_init_5 ?_
  refine ev_newa (kc := 0) (ks := 0) d_T_init_7 (by decide) (N := 40) (by decide) (by decide) (c0 := 44) rfl hxI ?_
  refine ev_putF d_T_init_9 fl_T_9 ⟨_, rfl, rfl⟩ rfl rfl rfl rfl rfl (Nat.le_of_ble_eq_true rfl) ?_
  exact ev_return d_T_init_12 rfl
def Mi109 (X : xC) : List va_E := [.inr (5, [.ref (xB X + 1), .ref (xB X + 8), .ref (xB X + 15), .ref (xB X + 2), .ref (xB X + 22), .ref (xB X + 24), .ref (xB X + 34), .null, .null, .int 0]), .inr (1, [.ref (xB X + 2), .ref (xB X + 3), .ref (xB X + 5), .ref (xB X + 6), .ref (xB X + 7), .int 0, .int 1]), .inr (0, [.ref (xB X + 3), .ref (xB X + 4)]), .inl (xI X, 40, .inl (fillF 40 50 (fun _ => 0))), .inl (xI X, 10, .inl (hasI)), .inl (xI X, 10, .inl (fillF 10 (-1) (fun _ => 0))), .inl (xI X, 10, .inl (fillF 10 (-1) (fun _ => 0))), .inl (xI X, 20, .inl (fun _ => 0)), .inr (1, [.ref (xB X + 9), .ref (xB X + 10), .ref (xB X + 12), .ref (xB X + 13), .ref (xB X + 14), .int 0, .int 1]), .inr (0, [.ref (xB X + 10), .ref (xB X + 11)]), .inl (xI X, 40, .inl (fillF 40 50 (fun _ => 0))), .inl (xI X, 10, .inl (hasI)), .inl (xI X, 10, .inl (fillF 10 (-1) (fun _ => 0))), .inl (xI X, 10, .inl (fillF 10 (-1) (fun _ => 0))), .inl (xI X, 20, .inl (fun _ => 0)), .inr (1, [.ref (xB X + 16), .ref (xB X + 17), .ref (xB X + 19), .ref (xB X + 20), .ref (xB X + 21), .int 0, .int 1]), .inr (0, [.ref (xB X + 17), .ref (xB X + 18)]), .inl (xI X, 40, .inl (fillF 40 50 (fun _ => 0))), .inl (xI X, 10, .inl (hasI)), .inl (xI X, 10, .inl (fillF 10 (-1) (fun _ => 0))), .inl (xI X, 10, .inl (fillF 10 (-1) (fun _ => 0))), .inl (xI X, 20, .inl (fun _ => 0)), .inr (0, [.ref (xB X + 3), .ref (xB X + 23)]), .inl (xI X, 10, .inl (hasI)), .inr (2, [.ref (xB X + 25), .int 0, .int 0, .int 0, .int 0]), .inl (xR X 0, 4, .inr (.inr (.inr (.inr (va_up (va_up (va_up (va_up (fun _ => none) 0 (some (xB X + 26))) 1 (some (xB X + 28))) 2 (some (xB X + 30))) 3 (some (xB X + 32))))))), .inr (0, [.ref (xB X + 3), .ref (xB X + 27)]), .inl (xI X, 10, .inl (hasI)), .inr (0, [.ref (xB X + 3), .ref (xB X + 29)]), .inl (xI X, 10, .inl (hasI)), .inr (0, [.ref (xB X + 3), .ref (xB X + 31)]), .inl (xI X, 10, .inl (hasI)), .inr (0, [.ref (xB X + 3), .ref (xB X + 33)]), .inl (xI X, 10, .inl (hasI)), .inr (4, [.ref (xB X + 35), .int 0, .int 0, .int 0, .int 0, .int 0]), .inl (xI X, 120, .inl (fun _ => 0)), .inl (xR X 1, 4, .inr (.inr (.inr (.inr (va_up (va_up (va_up (va_up (fun _ => none) 0 (some (xB X + 37))) 1 (some (xB X + 39))) 2 (some (xB X + 41))) 3 (some (xB X + 43))))))), .inr (3, [.ref (xB X + 38), .int 0, .int 0]), .inl (xI X, 40, .inl (fun _ => 0)), .inr (3, [.ref (xB X + 40), .int 0, .int 0]), .inl (xI X, 40, .inl (fun _ => 0)), .inr (3, [.ref (xB X + 42), .int 0, .int 0]), .inl (xI X, 40, .inl (fun _ => 0)), .inr (3, [.ref (xB X + 44), .int 0, .int 0]), .inl (xI X, 40, .inl (fun _ => 0))]
def Mi110 (X : xC) : List va_E := [.inr (5, [.ref (xB X + 1), .ref (xB X + 8), .ref (xB X + 15), .ref (xB X + 2), .ref (xB X + 22), .ref (xB X + 24), .ref (xB X + 34), .ref (xB X + 36), .null, .int 0]), .inr (1, [.ref (xB X + 2), .ref (xB X + 3), .ref (xB X + 5), .ref (xB X + 6), .ref (xB X + 7), .int 0, .int 1]), .inr (0, [.ref (xB X + 3), .ref (xB X + 4)]), .inl (xI X, 40, .inl (fillF 40 50 (fun _ => 0))), .inl (xI X, 10, .inl (hasI)), .inl (xI X, 10, .inl (fillF 10 (-1) (fun _ => 0))), .inl (xI X, 10, .inl (fillF 10 (-1) (fun _ => 0))), .inl (xI X, 20, .inl (fun _ => 0)), .inr (1, [.ref (xB X + 9), .ref (xB X + 10), .ref (xB X + 12), .ref (xB X + 13), .ref (xB X + 14), .int 0, .int 1]), .inr (0, [.ref (xB X + 10), .ref (xB X + 11)]), .inl (xI X, 40, .inl (fillF 40 50 (fun _ => 0))), .inl (xI X, 10, .inl (hasI)), .inl (xI X, 10, .inl (fillF 10 (-1) (fun _ => 0))), .inl (xI X, 10, .inl (fillF 10 (-1) (fun _ => 0))), .inl (xI X, 20, .inl (fun _ => 0)), .inr (1, [.ref (xB X + 16), .ref (xB X + 17), .ref (xB X + 19), .ref (xB X + 20), .ref (xB X + 21), .int 0, .int 1]), .inr (0, [.ref (xB X + 17), .ref (xB X + 18)]), .inl (xI X, 40, .inl (fillF 40 50 (fun _ => 0))), .inl (xI X, 10, .inl (hasI)), .inl (xI X, 10, .inl (fillF 10 (-1) (fun _ => 0))), .inl (xI X, 10, .inl (fillF 10 (-1) (fun _ => 0))), .inl (xI X, 20, .inl (fun _ => 0)), .inr (0, [.ref (xB X + 3), .ref (xB X + 23)]), .inl (xI X, 10, .inl (hasI)), .inr (2, [.ref (xB X + 25), .int 0, .int 0, .int 0, .int 0]), .inl (xR X 0, 4, .inr (.inr (.inr (.inr (va_up (va_up (va_up (va_up (fun _ => none) 0 (some (xB X + 26))) 1 (some (xB X + 28))) 2 (some (xB X + 30))) 3 (some (xB X + 32))))))), .inr (0, [.ref (xB X + 3), .ref (xB X + 27)]), .inl (xI X, 10, .inl (hasI)), .inr (0, [.ref (xB X + 3), .ref (xB X + 29)]), .inl (xI X, 10, .inl (hasI)), .inr (0, [.ref (xB X + 3), .ref (xB X + 31)]), .inl (xI X, 10, .inl (hasI)), .inr (0, [.ref (xB X + 3), .ref (xB X + 33)]), .inl (xI X, 10, .inl (hasI)), .inr (4, [.ref (xB X + 35), .int 0, .int 0, .int 0, .int 0, .int 0]), .inl (xI X, 120, .inl (fun _ => 0)), .inl (xR X 1, 4, .inr (.inr (.inr (.inr (va_up (va_up (va_up (va_up (fun _ => none) 0 (some (xB X + 37))) 1 (some (xB X + 39))) 2 (some (xB X + 41))) 3 (some (xB X + 43))))))), .inr (3, [.ref (xB X + 38), .int 0, .int 0]), .inl (xI X, 40, .inl (fun _ => 0)), .inr (3, [.ref (xB X + 40), .int 0, .int 0]), .inl (xI X, 40, .inl (fun _ => 0)), .inr (3, [.ref (xB X + 42), .int 0, .int 0]), .inl (xI X, 40, .inl (fun _ => 0)), .inr (3, [.ref (xB X + 44), .int 0, .int 0]), .inl (xI X, 40, .inl (fun _ => 0))]
def Mi111 (X : xC) : List va_E := [.inr (5, [.ref (xB X + 1), .ref (xB X + 8), .ref (xB X + 15), .ref (xB X + 2), .ref (xB X + 22), .ref (xB X + 24), .ref (xB X + 34), .ref (xB X + 36), .null, .int 0]), .inr (1, [.ref (xB X + 2), .ref (xB X + 3), .ref (xB X + 5), .ref (xB X + 6), .ref (xB X + 7), .int 0, .int 1]), .inr (0, [.ref (xB X + 3), .ref (xB X + 4)]), .inl (xI X, 40, .inl (fillF 40 50 (fun _ => 0))), .inl (xI X, 10, .inl (hasI)), .inl (xI X, 10, .inl (fillF 10 (-1) (fun _ => 0))), .inl (xI X, 10, .inl (fillF 10 (-1) (fun _ => 0))), .inl (xI X, 20, .inl (fun _ => 0)), .inr (1, [.ref (xB X + 9), .ref (xB X + 10), .ref (xB X + 12), .ref (xB X + 13), .ref (xB X + 14), .int 0, .int 1]), .inr (0, [.ref (xB X + 10), .ref (xB X + 11)]), .inl (xI X, 40, .inl (fillF 40 50 (fun _ => 0))), .inl (xI X, 10, .inl (hasI)), .inl (xI X, 10, .inl (fillF 10 (-1) (fun _ => 0))), .inl (xI X, 10, .inl (fillF 10 (-1) (fun _ => 0))), .inl (xI X, 20, .inl (fun _ => 0)), .inr (1, [.ref (xB X + 16), .ref (xB X + 17), .ref (xB X + 19), .ref (xB X + 20), .ref (xB X + 21), .int 0, .int 1]), .inr (0, [.ref (xB X + 17), .ref (xB X + 18)]), .inl (xI X, 40, .inl (fillF 40 50 (fun _ => 0))), .inl (xI X, 10, .inl (hasI)), .inl (xI X, 10, .inl (fillF 10 (-1) (fun _ => 0))), .inl (xI X, 10, .inl (fillF 10 (-1) (fun _ => 0))), .inl (xI X, 20, .inl (fun _ => 0)), .inr (0, [.ref (xB X + 3), .ref (xB X + 23)]), .inl (xI X, 10, .inl (hasI)), .inr (2, [.ref (xB X + 25), .int 0, .int 0, .int 0, .int 0]), .inl (xR X 0, 4, .inr (.inr (.inr (.inr (va_up (va_up (va_up (va_up (fun _ => none) 0 (some (xB X + 26))) 1 (some (xB X + 28))) 2 (some (xB X + 30))) 3 (some (xB X + 32))))))), .inr (0, [.ref (xB X + 3), .ref (xB X + 27)]), .inl (xI X, 10, .inl (hasI)), .inr (0, [.ref (xB X + 3), .ref (xB X + 29)]), .inl (xI X, 10, .inl (hasI)), .inr (0, [.ref (xB X + 3), .ref (xB X + 31)]), .inl (xI X, 10, .inl (hasI)), .inr (0, [.ref (xB X + 3), .ref (xB X + 33)]), .inl (xI X, 10, .inl (hasI)), .inr (4, [.ref (xB X + 35), .int 0, .int 0, .int 0, .int 0, .int 0]), .inl (xI X, 120, .inl (fun _ => 0)), .inl (xR X 1, 4, .inr (.inr (.inr (.inr (va_up (va_up (va_up (va_up (fun _ => none) 0 (some (xB X + 37))) 1 (some (xB X + 39))) 2 (some (xB X + 41))) 3 (some (xB X + 43))))))), .inr (3, [.ref (xB X + 38), .int 0, .int 0]), .inl (xI X, 40, .inl (fun _ => 0)), .inr (3, [.ref (xB X + 40), .int 0, .int 0]), .inl (xI X, 40, .inl (fun _ => 0)), .inr (3, [.ref (xB X + 42), .int 0, .int 0]), .inl (xI X, 40, .inl (fun _ => 0)), .inr (3, [.ref (xB X + 44), .int 0, .int 0]), .inl (xI X, 40, .inl (fun _ => 0)), .inl (xI X, 7, .inl (fun _ => 0))]
def Mi112 (X : xC) : List va_E := [.inr (5, [.ref (xB X + 1), .ref (xB X + 8), .ref (xB X + 15), .ref (xB X + 2), .ref (xB X + 22), .ref (xB X + 24), .ref (xB X + 34), .ref (xB X + 36), .ref (xB X + 45), .int 0]), .inr (1, [.ref (xB X + 2), .ref (xB X + 3), .ref (xB X + 5), .ref (xB X + 6), .ref (xB X + 7), .int 0, .int 1]), .inr (0, [.ref (xB X + 3), .ref (xB X + 4)]), .inl (xI X, 40, .inl (fillF 40 50 (fun _ => 0))), .inl (xI X, 10, .inl (hasI)), .inl (xI X, 10, .inl (fillF 10 (-1) (fun _ => 0))), .inl (xI X, 10, .inl (fillF 10 (-1) (fun _ => 0))), .inl (xI X, 20, .inl (fun _ => 0)), .inr (1, [.ref (xB X + 9), .ref (xB X + 10), .ref (xB X + 12), .ref (xB X + 13), .ref (xB X + 14), .int 0, .int 1]), .inr (0, [.ref (xB X + 10), .ref (xB X + 11)]), .inl (xI X, 40, .inl (fillF 40 50 (fun _ => 0))), .inl (xI X, 10, .inl (hasI)), .inl (xI X, 10, .inl (fillF 10 (-1) (fun _ => 0))), .inl (xI X, 10, .inl (fillF 10 (-1) (fun _ => 0))), .inl (xI X, 20, .inl (fun _ => 0)), .inr (1, [.ref (xB X + 16), .ref (xB X + 17), .ref (xB X + 19), .ref (xB X + 20), .ref (xB X + 21), .int 0, .int 1]), .inr (0, [.ref (xB X + 17), .ref (xB X + 18)]), .inl (xI X, 40, .inl (fillF 40 50 (fun _ => 0))), .inl (xI X, 10, .inl (hasI)), .inl (xI X, 10, .inl (fillF 10 (-1) (fun _ => 0))), .inl (xI X, 10, .inl (fillF 10 (-1) (fun _ => 0))), .inl (xI X, 20, .inl (fun _ => 0)), .inr (0, [.ref (xB X + 3), .ref (xB X + 23)]), .inl (xI X, 10, .inl (hasI)), .inr (2, [.ref (xB X + 25), .int 0, .int 0, .int 0, .int 0]), .inl (xR X 0, 4, .inr (.inr (.inr (.inr (va_up (va_up (va_up (va_up (fun _ => none) 0 (some (xB X + 26))) 1 (some (xB X + 28))) 2 (some (xB X + 30))) 3 (some (xB X + 32))))))), .inr (0, [.ref (xB X + 3), .ref (xB X + 27)]), .inl (xI X, 10, .inl (hasI)), .inr (0, [.ref (xB X + 3), .ref (xB X + 29)]), .inl (xI X, 10, .inl (hasI)), .inr (0, [.ref (xB X + 3), .ref (xB X + 31)]), .inl (xI X, 10, .inl (hasI)), .inr (0, [.ref (xB X + 3), .ref (xB X + 33)]), .inl (xI X, 10, .inl (hasI)), .inr (4, [.ref (xB X + 35), .int 0, .int 0, .int 0, .int 0, .int 0]), .inl (xI X, 120, .inl (fun _ => 0)), .inl (xR X 1, 4, .inr (.inr (.inr (.inr (va_up (va_up (va_up (va_up (fun _ => none) 0 (some (xB X + 37))) 1 (some (xB X + 39))) 2 (some (xB X + 41))) 3 (some (xB X + 43))))))), .inr (3, [.ref (xB X + 38), .int 0, .int 0]), .inl (xI X, 40, .inl (fun _ => 0)), .inr (3, [.ref (xB X + 40), .int 0, .int 0]), .inl (xI X, 40, .inl (fun _ => 0)), .inr (3, [.ref (xB X + 42), .int 0, .int 0]), .inl (xI X, 40, .inl (fun _ => 0)), .inr (3, [.ref (xB X + 44), .int 0, .int 0]), .inl (xI X, 40, .inl (fun _ => 0)), .inl (xI X, 7, .inl (fun _ => 0))]
def Mi113 (X : xC) : List va_E := [.inr (5, [.ref (xB X + 1), .ref (xB X + 8), .ref (xB X + 15), .ref (xB X + 2), .ref (xB X + 22), .ref (xB X + 24), .ref (xB X + 34), .ref (xB X + 36), .ref (xB X + 45), .int 0]), .inr (1, [.ref (xB X + 2), .ref (xB X + 3), .ref (xB X + 5), .ref (xB X + 6), .ref (xB X + 7), .int 0, .int 1]), .inr (0, [.ref (xB X + 3), .ref (xB X + 4)]), .inl (xI X, 40, .inl (fillF 40 50 (fun _ => 0))), .inl (xI X, 10, .inl (hasI)), .inl (xI X, 10, .inl (fillF 10 (-1) (fun _ => 0))), .inl (xI X, 10, .inl (fillF 10 (-1) (fun _ => 0))), .inl (xI X, 20, .inl (fun _ => 0)), .inr (1, [.ref (xB X + 9), .ref (xB X + 10), .ref (xB X + 12), .ref (xB X + 13), .ref (xB X + 14), .int 0, .int 1]), .inr (0, [.ref (xB X + 10), .ref (xB X + 11)]), .inl (xI X, 40, .inl (fillF 40 50 (fun _ => 0))), .inl (xI X, 10, .inl (hasI)), .inl (xI X, 10, .inl (fillF 10 (-1) (fun _ => 0))), .inl (xI X, 10, .inl (fillF 10 (-1) (fun _ => 0))), .inl (xI X, 20, .inl (fun _ => 0)), .inr (1, [.ref (xB X + 16), .ref (xB X + 17), .ref (xB X + 19), .ref (xB X + 20), .ref (xB X + 21), .int 0, .int 1]), .inr (0, [.ref (xB X + 17), .ref (xB X + 18)]), .inl (xI X, 40, .inl (fillF 40 50 (fun _ => 0))), .inl (xI X, 10, .inl (hasI)), .inl (xI X, 10, .inl (fillF 10 (-1) (fun _ => 0))), .inl (xI X, 10, .inl (fillF 10 (-1) (fun _ => 0))), .inl (xI X, 20, .inl (fun _ => 0)), .inr (0, [.ref (xB X + 3), .ref (xB X + 23)]), .inl (xI X, 10, .inl (hasI)), .inr (2, [.ref (xB X + 25), .int 0, .int 0, .int 0, .int 0]), .inl (xR X 0, 4, .inr (.inr (.inr (.inr (va_up (va_up (va_up (va_up (fun _ => none) 0 (some (xB X + 26))) 1 (some (xB X + 28))) 2 (some (xB X + 30))) 3 (some (xB X + 32))))))), .inr (0, [.ref (xB X + 3), .ref (xB X + 27)]), .inl (xI X, 10, .inl (hasI)), .inr (0, [.ref (xB X + 3), .ref (xB X + 29)]), .inl (xI X, 10, .inl (hasI)), .inr (0, [.ref (xB X + 3), .ref (xB X + 31)]), .inl (xI X, 10, .inl (hasI)), .inr (0, [.ref (xB X + 3), .ref (xB X + 33)]), .inl (xI X, 10, .inl (hasI)), .inr (4, [.ref (xB X + 35), .int 0, .int 0, .int 0, .int 0, .int 0]), .inl (xI X, 120, .inl (fun _ => 0)), .inl (xR X 1, 4, .inr (.inr (.inr (.inr (va_up (va_up (va_up (va_up (fun _ => none) 0 (some (xB X + 37))) 1 (some (xB X + 39))) 2 (some (xB X + 41))) 3 (some (xB X + 43))))))), .inr (3, [.ref (xB X + 38), .int 0, .int 0]), .inl (xI X, 40, .inl (fun _ => 0)), .inr (3, [.ref (xB X + 40), .int 0, .int 0]), .inl (xI X, 40, .inl (fun _ => 0)), .inr (3, [.ref (xB X + 42), .int 0, .int 0]), .inl (xI X, 40, .inl (fun _ => 0)), .inr (3, [.ref (xB X + 44), .int 0, .int 0]), .inl (xI X, 40, .inl (fun _ => 0)), .inl (xI X, 7, .inl (fun _ => 0))]
set_option maxRecDepth 20000 in
set_option maxHeartbeats 4000000 in
theorem wi_S_113 {X : xC} {d : Nat} : Sem X k_S_init (d + 3) 0 [some (.ref (xB X + 0))] [] (Mi1 X) none (Mi113 X) 45 675 := by
  refine ev_aload_n d_S_init_0 rfl ?_
  refine ev_objInit d_S_init_1 ml_S_1 (Nat.le_of_ble_eq_true rfl) ?_
  refine ev_aload_n d_S_init_4 rfl ?_
  refine ev_new (kc := 44) (ks := 668) (ci := 1) (fs := [.null, .null, .null, .null, .null, .int 0, .int 0]) d_S_init_5 rfl (TG_at 23 (by decide +kernel) (by decide +kernel)) (TG_at 24 (by decide +kernel) (by decide +kernel)) (TG_at 2 (by decide +kernel) (by decide +kernel)) dv_1 (c0 := 1) rfl ?_
  refine Sem.mem (M2 := Mi2 X) rfl ?_
  refine ev_dup d_S_init_8 rfl ?_
  refine ev_callI (As := []) (k1 := 6) (s1 := 92) (kc := 38) (ks := 576) d_S_init_9 ml_S_9 ik_C_init rfl rfl (fun v hv => by cases hv) (Nat.le_of_ble_eq_true rfl) (wi_C_20 (X := X) (d := d)) ?_
  refine ev_putF d_S_init_12 fl_S_10 ⟨_, rfl, rfl⟩ rfl rfl rfl rfl rfl (Nat.le_of_ble_eq_true rfl) ?_
  refine Sem.mem (M2 := Mi21 X) rfl ?_
  refine ev_aload_n d_S_init_15 rfl ?_
  refine ev_new (kc := 37) (ks := 569) (ci := 1) (fs := [.null, .null, .null, .null, .null, .int 0, .int 0]) d_S_init_16 rfl (TG_at 23 (by decide +kernel) (by decide +kernel)) (TG_at 24 (by decide +kernel) (by decide +kernel)) (TG_at 2 (by decide +kernel) (by decide +kernel)) dv_1 (c0 := 8) rfl ?_
  refine Sem.mem (M2 := Mi22 X) rfl ?_
  refine ev_dup d_S_init_19 rfl ?_
  refine ev_callI (As := []) (k1 := 6) (s1 := 92) (kc := 31) (ks := 477) d_S_init_20 ml_S_9 ik_C_init rfl rfl (fun v hv => by cases hv) (Nat.le_of_ble_eq_true rfl) (wi_C_40 (X := X) (d := d)) ?_
  refine ev_putF d_S_init_23 fl_S_16 ⟨_, rfl, rfl⟩ rfl rfl rfl rfl rfl (Nat.le_of_ble_eq_true rfl) ?_
  refine Sem.mem (M2 := Mi41 X) rfl ?_
  refine ev_aload_n d_S_init_26 rfl ?_
  refine ev_new (kc := 30) (ks := 470) (ci := 1) (fs := [.null, .null, .null, .null, .null, .int 0, .int 0]) d_S_init_27 rfl (TG_at 23 (by decide +kernel) (by decide +kernel)) (TG_at 24 (by decide +kernel) (by decide +kernel)) (TG_at 2 (by decide +kernel) (by decide +kernel)) dv_1 (c0 := 15) rfl ?_
  refine Sem.mem (M2 := Mi42 X) rfl ?_
  refine ev_dup d_S_init_30 rfl ?_
  refine ev_callI (As := []) (k1 := 6) (s1 := 92) (kc := 24) (ks := 378) d_S_init_31 ml_S_9 ik_C_init rfl rfl (fun v hv => by cases hv) (Nat.le_of_ble_eq_true rfl) (wi_C_60 (X := X) (d := d)) ?_
  refine ev_putF d_S_init_34 fl_S_19 ⟨_, rfl, rfl⟩ rfl rfl rfl rfl rfl (Nat.le_of_ble_eq_true rfl) ?_
  refine Sem.mem (M2 := Mi61 X) rfl ?_
  refine ev_aload_n d_S_init_37 rfl ?_
  refine ev_aload_n d_S_init_38 rfl ?_
  refine ev_get d_S_init_39 fl_S_10 rfl rfl ?_
  refine ev_get d_S_init_42 fl_S_22 rfl rfl ?_
  refine ev_putF d_S_init_45 fl_S_26 ⟨_, rfl, rfl⟩ rfl rfl rfl rfl rfl (Nat.le_of_ble_eq_true rfl) ?_
  refine Sem.mem (M2 := Mi62 X) rfl ?_
  refine ev_aload_n d_S_init_48 rfl ?_
  refine ev_new (kc := 23) (ks := 376) (ci := 0) (fs := [.null, .null]) d_S_init_49 rfl (TG_at 80 (by decide +kernel) (by decide +kernel)) (TG_at 30 (by decide +kernel) (by decide +kernel)) (TG_at 3 (by decide +kernel) (by decide +kernel)) dv_0 (c0 := 22) rfl ?_
  refine Sem.mem (M2 := Mi63 X) rfl ?_
  refine ev_dup d_S_init_52 rfl ?_
  refine ev_aload_n d_S_init_53 rfl ?_
  refine ev_get d_S_init_54 fl_S_10 rfl rfl ?_
  refine ev_get d_S_init_57 fl_S_29 rfl rfl ?_
  refine ev_callI (As := [.ref (xB X + 3)]) (k1 := 1) (s1 := 10) (kc := 22) (ks := 366) d_S_init_60 ml_S_33 ik_L_init rfl rfl (cat_cons rfl (fun v hv => by cases hv)) (Nat.le_of_ble_eq_true rfl) (wi_L_65 (X := X) (d := d + 1)) ?_
  refine ev_putF d_S_init_63 fl_S_36 ⟨_, rfl, rfl⟩ rfl rfl rfl rfl rfl (Nat.le_of_ble_eq_true rfl) ?_
  refine Sem.mem (M2 := Mi66 X) rfl ?_
  refine ev_aload_n d_S_init_66 rfl ?_
  refine ev_new (kc := 21) (ks := 361) (ci := 2) (fs := [.null, .int 0, .int 0, .int 0, .int 0]) d_S_init_67 rfl (TG_at 82 (by decide +kernel) (by decide +kernel)) (TG_at 83 (by decide +kernel) (by decide +kernel)) (TG_at 5 (by decide +kernel) (by decide +kernel)) dv_2 (c0 := 24) rfl ?_
  refine Sem.mem (M2 := Mi67 X) rfl ?_
  refine ev_dup d_S_init_70 rfl ?_
  refine ev_aload_n d_S_init_71 rfl ?_
  refine ev_get d_S_init_72 fl_S_10 rfl rfl ?_
  refine ev_get d_S_init_75 fl_S_29 rfl rfl ?_
  refine ev_callI (As := [.ref (xB X + 3)]) (k1 := 9) (s1 := 52) (kc := 12) (ks := 309) d_S_init_78 ml_S_41 ik_H_init rfl rfl (cat_cons rfl (fun v hv => by cases hv)) (Nat.le_of_ble_eq_true rfl) (wi_H_87 (X := X) (d := d)) ?_
  refine ev_putF d_S_init_81 fl_S_42 ⟨_, rfl, rfl⟩ rfl rfl rfl rfl rfl (Nat.le_of_ble_eq_true rfl) ?_
  refine Sem.mem (M2 := Mi88 X) rfl ?_
  refine ev_aload_n d_S_init_84 rfl ?_
  refine ev_new (kc := 11) (ks := 303) (ci := 4) (fs := [.null, .int 0, .int 0, .int 0, .int 0, .int 0]) d_S_init_85 rfl (TG_at 111 (by decide +kernel) (by decide +kernel)) (TG_at 112 (by decide +kernel) (by decide +kernel)) (TG_at 6 (by decide +kernel) (by decide +kernel)) dv_4 (c0 := 34) rfl ?_
  refine Sem.mem (M2 := Mi89 X) rfl ?_
  refine ev_dup d_S_init_88 rfl ?_
  refine ev_callIN (As := []) (k1 := 1) (s1 := 120) (kc := 10) (ks := 183) d_S_init_89 nl_S_48 ik_P_init rfl rfl (fun v hv => by cases hv) (Nat.le_of_ble_eq_true rfl) (wi_P_91 (X := X) (d := d + 1)) ?_
  refine ev_putF d_S_init_92 fl_S_49 ⟨_, rfl, rfl⟩ rfl rfl rfl rfl rfl (Nat.le_of_ble_eq_true rfl) ?_
  refine Sem.mem (M2 := Mi92 X) rfl ?_
  refine ev_aload_n d_S_init_95 rfl ?_
  refine ev_iconst d_S_init_96 ?_
  refine ev_newq (kc := 9) (ks := 179) (t := 2) (cA := xR X 1) d_S_init_97 (TG_at 137 (by decide +kernel) (by decide +kernel)) hx1 (by decide) (N := 4) (by decide) (by decide) (c0 := 36) rfl rfl ?_
  refine Sem.mem (M2 := Mi93 X) rfl ?_
  refine ev_dup d_S_init_100 rfl ?_
  refine ev_iconst d_S_init_101 ?_
  refine ev_new (kc := 8) (ks := 176) (ci := 3) (fs := [.null, .int 0, .int 0]) d_S_init_102 rfl (TG_at 137 (by decide +kernel) (by decide +kernel)) (TG_at 139 (by decide +kernel) (by decide +kernel)) (TG_at 7 (by decide +kernel) (by decide +kernel)) dv_3 (c0 := 37) rfl ?_
  refine Sem.mem (M2 := Mi94 X) rfl ?_
  refine ev_dup d_S_init_105 rfl ?_
  refine ev_callIN (As := []) (k1 := 1) (s1 := 40) (kc := 7) (ks := 136) d_S_init_106 nl_S_55 ik_T_init rfl rfl (fun v hv => by cases hv) (Nat.le_of_ble_eq_true rfl) (wi_T_96 (X := X) (d := d + 1)) ?_
  refine ev_aast (t := 2) d_S_init_109 rfl rfl rfl rfl (inb_in (by decide)) ?_
  refine Sem.mem (M2 := Mi97 X) rfl ?_
  refine ev_dup d_S_init_110 rfl ?_
  refine ev_iconst d_S_init_111 ?_
  refine ev_new (kc := 6) (ks := 133) (ci := 3) (fs := [.null, .int 0, .int 0]) d_S_init_112 rfl (TG_at 137 (by decide +kernel) (by decide +kernel)) (TG_at 139 (by decide +kernel) (by decide +kernel)) (TG_at 7 (by decide +kernel) (by decide +kernel)) dv_3 (c0 := 39) rfl ?_
  refine Sem.mem (M2 := Mi98 X) rfl ?_
  refine ev_dup d_S_init_115 rfl ?_
  refine ev_callIN (As := []) (k1 := 1) (s1 := 40) (kc := 5) (ks := 93) d_S_init_116 nl_S_55 ik_T_init rfl rfl (fun v hv => by cases hv) (Nat.le_of_ble_eq_true rfl) (wi_T_100 (X := X) (d := d + 1)) ?_
  refine ev_aast (t := 2) d_S_init_119 rfl rfl rfl rfl (inb_in (by decide)) ?_
  refine Sem.mem (M2 := Mi101 X) rfl ?_
  refine ev_dup d_S_init_120 rfl ?_
  refine ev_iconst d_S_init_121 ?_
  refine ev_new (kc := 4) (ks := 90) (ci := 3) (fs := [.null, .int 0, .int 0]) d_S_init_122 rfl (TG_at 137 (by decide +kernel) (by decide +kernel)) (TG_at 139 (by decide +kernel) (by decide +kernel)) (TG_at 7 (by decide +kernel) (by decide +kernel)) dv_3 (c0 := 41) rfl ?_
  refine Sem.mem (M2 := Mi102 X) rfl ?_
  refine ev_dup d_S_init_125 rfl ?_
  refine ev_callIN (As := []) (k1 := 1) (s1 := 40) (kc := 3) (ks := 50) d_S_init_126 nl_S_55 ik_T_init rfl rfl (fun v hv => by cases hv) (Nat.le_of_ble_eq_true rfl) (wi_T_104 (X := X) (d := d + 1)) ?_
  refine ev_aast (t := 2) d_S_init_129 rfl rfl rfl rfl (inb_in (by decide)) ?_
  refine Sem.mem (M2 := Mi105 X) rfl ?_
  refine ev_dup d_S_init_130 rfl ?_
  refine ev_iconst d_S_init_131 ?_
  refine ev_new (kc := 2) (ks := 47) (ci := 3) (fs := [.null, .int 0, .int 0]) d_S_init_132 rfl (TG_at 137 (by decide +kernel) (by decide +kernel)) (TG_at 139 (by decide +kernel) (by decide +kernel)) (TG_at 7 (by decide +kernel) (by decide +kernel)) dv_3 (c0 := 43) rfl ?_
  refine Sem.mem (M2 := Mi106 X) rfl ?_
  refine ev_dup d_S_init_135 rfl ?_
  refine ev_callIN (As := []) (k1 := 1) (s1 := 40) (kc := 1) (ks := 7) d_S_init_136 nl_S_55 ik_T_init rfl rfl (fun v hv => by cases hv) (Nat.le_of_ble_eq_true rfl) (wi_T_108 (X := X) (d := d + 1)) ?_
  refine ev_aast (t := 2) d_S_init_139 rfl rfl rfl rfl (inb_in (by decide)) ?_
  refine Sem.mem (M2 := Mi109 X) rfl ?_
  refine ev_putF d_S_init_140 fl_S_56 ⟨_, rfl, rfl⟩ rfl rfl rfl rfl rfl (Nat.le_of_ble_eq_true rfl) ?_
  refine Sem.mem (M2 := Mi110 X) rfl ?_
  refine ev_aload_n d_S_init_143 rfl ?_
  refine ev_bipush d_S_init_144 ?_
  refine ev_newa (kc := 0) (ks := 0) d_S_init_146 (by decide) (N := 7) (by decide) (by decide) (c0 := 45) rfl hxI ?_
  refine Sem.mem (M2 := Mi111 X) rfl ?_
  refine ev_putF d_S_init_148 fl_S_60 ⟨_, rfl, rfl⟩ rfl rfl rfl rfl rfl (Nat.le_of_ble_eq_true rfl) ?_
  refine Sem.mem (M2 := Mi112 X) rfl ?_
  exact ev_return d_S_init_151 rfl
