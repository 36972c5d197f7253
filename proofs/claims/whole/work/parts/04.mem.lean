theorem i_L : ∀ w ∈ u_ws R_L F_L 2, w ∈ tables_1 ∧ goodWord w = true := by decide +kernel
theorem i_C : ∀ w ∈ u_ws R_C F_C 7, w ∈ tables_1 ∧ goodWord w = true := by decide +kernel
theorem i_H : ∀ w ∈ u_ws R_H F_H 5, w ∈ tables_1 ∧ goodWord w = true := by decide +kernel
theorem i_T : ∀ w ∈ u_ws R_T F_T 3, w ∈ tables_1 ∧ goodWord w = true := by decide +kernel
theorem i_P : ∀ w ∈ u_ws R_P F_P 6, w ∈ tables_1 ∧ goodWord w = true := by decide +kernel
theorem i_S : ∀ w ∈ u_ws R_S F_S 10, w ∈ tables_1 ∧ goodWord w = true := by decide +kernel
theorem i_M : ∀ w ∈ u_ws R_M F_M 16, w ∈ tables_1 ∧ goodWord w = true := by decide +kernel
theorem TG_of {w : Cond} (h : w ∈ tables_1 ∧ goodWord w = true) : w ∈ TG := List.mem_filter.mpr ⟨List.mem_append_right _ h.1, h.2⟩
theorem i_cls (ci : Nat) (q : vw_C) (h : cls[ci]? = some q) : ∀ w ∈ u_ws q.1 q.2.1 q.2.2, w ∈ TG := by
  match ci, h with
  | 0, h => cases h; exact fun w hw => TG_of (i_L w hw)
  | 1, h => cases h; exact fun w hw => TG_of (i_C w hw)
  | 2, h => cases h; exact fun w hw => TG_of (i_H w hw)
  | 3, h => cases h; exact fun w hw => TG_of (i_T w hw)
  | 4, h => cases h; exact fun w hw => TG_of (i_P w hw)
  | 5, h => cases h; exact fun w hw => TG_of (i_S w hw)
  | 6, h => cases h; exact fun w hw => TG_of (i_M w hw)
  | i + 7, h => simp [cls] at h
theorem t_cls (ci : Nat) (q : vw_C) (h : cls[ci]? = some q) : ∀ k, k < q.2.2 → parseFieldDescriptor (q.2.1 k).2.2.1 = some (clsT ci k) := by
  match ci, h with
  | 0, h => cases h; exact ft_L_ok
  | 1, h => cases h; exact ft_C_ok
  | 2, h => cases h; exact ft_H_ok
  | 3, h => cases h; exact ft_T_ok
  | 4, h => cases h; exact ft_P_ok
  | 5, h => cases h; exact ft_S_ok
  | 6, h => cases h; exact ft_M_ok
  | i + 7, h => simp [cls] at h
theorem n_cls (ci : Nat) (q : vw_C) (h : cls[ci]? = some q) : ∀ a, a < q.2.2 → ∀ b, b < q.2.2 → a ≠ b → (q.2.1 a).2.1 ≠ (q.2.1 b).2.1 := by
  match ci, h with
  | 0, h => cases h; exact n_L
  | 1, h => cases h; exact n_C
  | 2, h => cases h; exact n_H
  | 3, h => cases h; exact n_T
  | 4, h => cases h; exact n_P
  | 5, h => cases h; exact n_S
  | 6, h => cases h; exact n_M
  | i + 7, h => simp [cls] at h
def FLk (own : String) (idx ci j : Nat) : Prop := ∃ q : vw_C, cls[ci]? = some q ∧ j < q.2.2 ∧ (q.2.1 j).1 = q.1 ∧ Cond.fieldLink own idx q.1 (q.2.1 j).2.1 (q.2.1 j).2.2.1 ∈ TG
def FinK (ci j : Nat) (b : Bool) : Prop := ∃ q : vw_C, cls[ci]? = some q ∧ (q.2.1 j).2.2.2 = b
theorem Wd.st {X : xC} {M : List va_E} {H H1 : Heap} {c0 : Nat} {e1 : va_E} (hW : Wd X M H) (hP : va_P (xD X) cls ((toW (xB X) M).set c0 (xB X + c0, e1)) H1) (hz : H1.size = H.size) : Wd X (M.set c0 e1) H1 := by
  rw [toW_set] at hP
  exact ⟨hP, by rw [hz, hW.2, List.length_set]⟩
theorem Wd.push {X : xC} {M : List va_E} {H H1 : Heap} {e1 : va_E} (hW : Wd X M H) (hk : ∀ q, q < H.size → H1[q]? = H[q]?) (hz : H1.size = H.size + 1) (he : va_at (xD X) cls (H.size, e1) H1) : Wd X (M ++ [e1]) H1 := by
  refine ⟨?_, by rw [hz, hW.2, List.length_append, List.length_singleton, Nat.add_assoc]⟩
  rw [← toW_push]
  refine (hW.1.kept (fun i q hq => hk q.1 (hW.1 i q hq).lt)).app (fun i q hq => ?_)
  have hz : i < 1 := (List.getElem?_eq_some_iff.mp hq).1
  rw [show i = 0 by omega] at hq
  cases hq
  rw [← hW.2]
  exact he
section MEM
variable {X : xC} {k : Mth} {d pc pc' tgt : Nat} {ls : List (Option Value)} {st : List Value} {M M' : List va_E} {r : Option Value} {kc ks : Nat}
theorem ev_get {idx c0 ci j : Nat} {fs : List Value} {v : Value} (hd : dI k.2.1 pc (.getfield idx) 3 pc') (hf : FLk k.1.cls idx ci j) (hM : M[c0]? = some (.inr (ci, fs))) (hv : fs[j]? = some v) (kk : Sem X k d pc' ls (v :: st) M r M' kc ks) : Sem X k d pc ls (.ref (xB X + c0) :: st) M r M' kc ks := by
  intro p l e R s m args below meth c C H locs cells slots hW hS hc hs la hl
  obtain ⟨hx, hb, hr, hml, hown, hts, hlk, hnm, hbs, hR, hE, hX⟩ := id C
  obtain ⟨hd, rfl⟩ := hd
  obtain ⟨⟨Cn, T, N⟩, h1, h2, h3, h4⟩ := hf
  exact va_get hx hb hts (i_cls ci _ h1) hown hE.1 hW.1 c0 (toW_get hM) h1 j h2 (hts _ h4) (fun x h => by rw [h3] at h; exact h) hv hd (kk p l e R s m args below meth c C H locs cells slots hW hS hc hs la hl)
theorem ev_put {idx c0 ci j : Nat} {fs : List Value} {v : Value} (hd : dI k.2.1 pc (.putfield idx) 3 pc') (hf : FLk k.1.cls idx ci j) (hfin : FinK ci j false) (hM : M[c0]? = some (.inr (ci, fs))) (hn : narrow (clsT ci j) v = v) (hfit : fits (clsT ci j) v = true) (hlf : j < fs.length) (kk : Sem X k d pc' ls st (M.set c0 (.inr (ci, fs.set j v))) r M' kc ks) : Sem X k d pc ls (v :: .ref (xB X + c0) :: st) M r M' kc ks := by
  intro p l e R s m args below meth c C H locs cells slots hW hS hc hs la hl
  obtain ⟨hx, hb, hr, hml, hown, hts, hlk, hnm, hbs, hR, hE, hX⟩ := id C
  obtain ⟨hd, rfl⟩ := hd
  obtain ⟨⟨Cn, T, N⟩, h1, h2, h3, h4⟩ := hf
  obtain ⟨q', h5, h6⟩ := hfin
  cases h1.symm.trans h5
  have hap := va_apart (own := k.1.cls) hts (i_cls ci _ h1) (clsT ci) (t_cls ci _ h1) (n_cls ci _ h1) hE.1 h1
  obtain ⟨rr, g1, cell, q1, q2, q3, q4⟩ := hW.1 c0 _ (toW_get hM)
  have hrr : rr = (Cn, T, N) := Option.some.inj (g1.symm.trans h1)
  subst hrr
  obtain ⟨hSl, hfc, kC, hkC, hkind⟩ := hE.1.1 ci _ h1
  obtain ⟨cf, kf, fi, f, hi, hsl⟩ := hSl j h2
  have hlay := hts _ (i_cls ci _ h1 _ (u_in_lay h2))
  unfold u_lay at hlay
  rw [if_neg (by rw [h6]; decide)] at hlay
  have hst := (u_facts hfc hkC (u_lays hts (i_cls ci _ h1) h2) hi).1
  have h7 := u_store hfc hkC hkind hlay hi (t_cls ci _ h1 j h2) hn hfit
  refine W.putK hx hb (f := f) ⟨hown, hts _ h4, ⟨_, _, _, by rw [← h3]; exact hi⟩, hst⟩ (by rw [q2]; exact h7) q1 q3 (by rw [hsl]; exact k2_hasslot (q4 j h2)) rfl rfl hd fun H' e1 e2 e3 => ?_
  rw [hsl] at e1 ⊢
  have hP' := va_P.set hW.1 (toW_D (b := xB X)) (toW_get hM) (e := .inr (ci, fs.set j v)) ⟨_, h1, t_OB.to (V := updV (vp_V fs) j v) ⟨_, e1, q2, q3, t_set q4 hap h2 v⟩ (fun i _ => vp_updV_set hlf v i)⟩ e3
  exact kk p l e R s m args below meth c C H' _ cells slots (hW.st hP' e2) (hS.put e2 e3 (Nat.le_add_right _ _)) hc hs la hl
theorem ev_putF {idx c0 ci j : Nat} {fs : List Value} {v : Value} (hd : dI k.2.1 pc (.putfield idx) 3 pc') (hf : FLk k.1.cls idx ci j) (hfin : FinK ci j true) (hin : k.1.name = "<init>") (hcl : (cls[ci]?).map (fun q => q.1) = some k.1.cls) (hM : M[c0]? = some (.inr (ci, fs))) (hn : narrow (clsT ci j) v = v) (hfit : fits (clsT ci j) v = true) (hlf : j < fs.length) (kk : Sem X k d pc' ls st (M.set c0 (.inr (ci, fs.set j v))) r M' kc ks) : Sem X k d pc ls (v :: .ref (xB X + c0) :: st) M r M' kc ks := by
  intro p l e R s m args below meth c C H locs cells slots hW hS hc hs la hl
  obtain ⟨hx, hb, hr, hml, hown, hts, hlk, hnm, hbs, hR, hE, hX⟩ := id C
  obtain ⟨hd, rfl⟩ := hd
  obtain ⟨⟨Cn, T, N⟩, h1, h2, h3, h4⟩ := hf
  obtain ⟨q', h5, h6⟩ := hfin
  cases h1.symm.trans h5
  have hap := va_apart (own := k.1.cls) hts (i_cls ci _ h1) (clsT ci) (t_cls ci _ h1) (n_cls ci _ h1) hE.1 h1
  obtain ⟨rr, g1, cell, q1, q2, q3, q4⟩ := hW.1 c0 _ (toW_get hM)
  have hrr : rr = (Cn, T, N) := Option.some.inj (g1.symm.trans h1)
  subst hrr
  obtain ⟨hSl, hfc, kC, hkC, hkind⟩ := hE.1.1 ci _ h1
  obtain ⟨cf, kf, fi, f, hi, hsl⟩ := hSl j h2
  have hlay := hts _ (i_cls ci _ h1 _ (u_in_lay h2))
  unfold u_lay at hlay
  rw [if_pos h6] at hlay
  have hst := (u_facts hfc hkC (u_lays hts (i_cls ci _ h1) h2) hi).1
  have hdecl : (T j).1 = k.1.cls := by rw [h1] at hcl; rw [h3]; exact Option.some.inj hcl
  have hcf : m.cls = cf := by
    obtain ⟨_, _, c', _, _, _, -, -, hf', -, -, -, hown2, -⟩ := Cond.laysFinal_spec hlay
    have e1 : c' = cf := by have := hi.symm.trans hf'; simp at this; exact this.1.symm
    rw [hdecl] at hown2
    rw [← e1]; exact Option.some.inj (hown.symm.trans hown2)
  have h7 := u_fits hfc hkC hkind (Or.inr hlay) hi (t_cls ci _ h1 j h2) hn hfit
  refine W.putFinK hx hb hown (hts _ h4) (by rw [← h3]; exact hi) hst hcf (hnm.trans hin) (by rw [q2]; exact h7) q1 q3 (by rw [hsl]; exact k2_hasslot (q4 j h2)) rfl rfl hd fun H' e1 e2 e3 => ?_
  rw [hsl] at e1 ⊢
  have hP' := va_P.set hW.1 (toW_D (b := xB X)) (toW_get hM) (e := .inr (ci, fs.set j v)) ⟨_, h1, t_OB.to (V := updV (vp_V fs) j v) ⟨_, e1, q2, q3, t_set q4 hap h2 v⟩ (fun i _ => vp_updV_set hlf v i)⟩ e3
  exact kk p l e R s m args below meth c C H' _ cells slots (hW.st hP' e2) (hS.put e2 e3 (Nat.le_add_right _ _)) hc hs la hl
theorem ev_iald {c0 n : Nat} {f : Nat → Int32} {i : Int32} (hd : dI k.2.1 pc .iaload 1 pc') (hM : M[c0]? = some (.inl (xI X, n, .inl f))) (hi : vp_in i n) (kk : Sem X k d pc' ls (.int (f i.toNatClampNeg) :: st) M r M' kc ks) : Sem X k d pc ls (.int i :: .ref (xB X + c0) :: st) M r M' kc ks := by
  intro p l e R s m args below meth c C H locs cells slots hW hS hc hs la hl
  obtain ⟨hx, hb, hr, hml, hown, hts, hlk, hnm, hbs, hR, hE, hX⟩ := id C
  obtain ⟨hd, rfl⟩ := hd
  exact va_iald hx hb hE.1 hW.1 c0 0 (toW_get hM) rfl hi hd (kk p l e R s m args below meth c C H locs cells slots hW hS hc hs la hl)
theorem ev_iast {c0 n : Nat} {f : Nat → Int32} {i x : Int32} (hd : dI k.2.1 pc .iastore 1 pc') (hM : M[c0]? = some (.inl (xI X, n, .inl f))) (hi : vp_in i n) (kk : Sem X k d pc' ls st (M.set c0 (.inl (xI X, n, .inl (upd f i.toNatClampNeg x)))) r M' kc ks) : Sem X k d pc ls (.int x :: .int i :: .ref (xB X + c0) :: st) M r M' kc ks := by
  intro p l e R s m args below meth c C H locs cells slots hW hS hc hs la hl
  obtain ⟨hx, hb, hr, hml, hown, hts, hlk, hnm, hbs, hR, hE, hX⟩ := id C
  obtain ⟨hd, rfl⟩ := hd
  refine W.iast hx hb (hW.1 c0 _ (toW_get hM)) ((hE.1.2 0 _ rfl).1 n (fun j => .int (f j))) (fun q => by cases q) (by show ¬ (i < 0 ∨ (arrV _ _ _).slots.size ≤ _); rw [arrV_size]; exact hi) rfl rfl hd fun H1 e z oq => ?_
  have hP' := va_P.set hW.1 (toW_D (b := xB X)) (toW_get hM) (e := .inl (xI X, n, .inl (upd f i.toNatClampNeg x))) (H1 := H1) (by
    show H1[xB X + c0]? = some (vp_cell _ _)
    rw [e]
    rw [vp_cell_i, vp_cell_i, arrV_store]
    congr 2
    funext q
    by_cases hq : q = i.toNatClampNeg
    · subst hq
      simp [updV, upd]
    · simp [updV, upd, hq]) oq
  exact kk p l _ R s m args below meth c C H1 _ cells slots (hW.st hP' z) (hS.put z oq (Nat.le_add_right _ _)) hc hs la hl
theorem ev_aald {c0 t n a : Nat} {cA : ClassId} {C : String} {f : Nat → Option Nat} {i : Int32} (hd : dI k.2.1 pc .aaload 1 pc') (hM : M[c0]? = some (.inl (cA, n, .inr (.inr (.inr (.inr f)))))) (ht : (xTys X)[t]? = some (cA, .object C)) (hi : vp_in i n) (hf : f i.toNatClampNeg = some a) (kk : Sem X k d pc' ls (.ref a :: st) M r M' kc ks) : Sem X k d pc ls (.int i :: .ref (xB X + c0) :: st) M r M' kc ks := by
  intro p l e R s m args below meth c C H locs cells slots hW hS hc hs la hl
  obtain ⟨hx, hb, hr, hml, hown, hts, hlk, hnm, hbs, hR, hE, hX⟩ := id C
  obtain ⟨hd, rfl⟩ := hd
  refine va_aldq hx hb hE.1 hW.1 c0 t (toW_get hM) ht hi hd ?_
  rw [hf]
  exact (kk p l e R s m args below meth c C H locs cells slots hW hS hc hs la hl)
theorem ev_aast {c0 c1 ci t n : Nat} {cA : ClassId} {q : vw_C} {vs : List Value} {f : Nat → Option Nat} {i : Int32} (hd : dI k.2.1 pc .aastore 1 pc') (hM : M[c0]? = some (.inl (cA, n, .inr (.inr (.inr (.inr f)))))) (ht : (xTys X)[t]? = some (cA, .object q.1)) (hv : M[c1]? = some (.inr (ci, vs))) (hq : cls[ci]? = some q) (hi : vp_in i n) (kk : Sem X k d pc' ls st (M.set c0 (.inl (cA, n, .inr (.inr (.inr (.inr (va_up f i.toNatClampNeg (some (xB X + c1))))))))) r M' kc ks) : Sem X k d pc ls (.ref (xB X + c1) :: .int i :: .ref (xB X + c0) :: st) M r M' kc ks := by
  intro p l e R s m args below meth c C H locs cells slots hW hS hc hs la hl
  obtain ⟨hx, hb, hr, hml, hown, hts, hlk, hnm, hbs, hR, hE, hX⟩ := id C
  obtain ⟨hd, rfl⟩ := hd
  have hlt : i.toNatClampNeg < n := Nat.not_le.mp fun q => hi (Or.inr q)
  have h0 : ¬ i < 0 := fun q => hi (Or.inl q)
  obtain ⟨r', hr', cellV, g1, g2, g3, -⟩ := hW.1 c1 _ (toW_get hv)
  have hcls := (hE.1.1 ci q hq).2
  obtain ⟨kA, comp, k1, k2, k3, -⟩ := (hE.1.2 t _ ht).2
  have hcomp : comp = (xD X).1 ci := Option.some.inj (k3.symm.trans hcls.1)
  subst hcomp
  obtain ⟨kC, hkC, -⟩ := hcls.2
  refine W.aast hx hb (hW.1 c0 _ (toW_get hM)) (fun q h => by cases h) (fun h => by cases h) k1 k2 rfl hkC ⟨h0, by show _ < (arrV _ _ _).slots.size; rw [arrV_size]; exact hlt⟩ g1 (fun q h => by rw [g3] at h; cases h) (by rw [g2]; exact hkC) (by rw [g2]; exact va_assign hcls) rfl rfl hd fun H1 e z oq => ?_
  have hP' := va_P.set hW.1 (toW_D (b := xB X)) (toW_get hM) (e := .inl (cA, n, .inr (.inr (.inr (.inr (va_up f i.toNatClampNeg (some (xB X + c1)))))))) (H1 := H1) (by
    show H1[xB X + c0]? = some (vp_cell _ _)
    rw [e]
    rw [vp_cell_q, vp_cell_q, arrV_store]
    congr 2
    funext q
    by_cases hq : q = i.toNatClampNeg
    · subst hq
      simp [updV, va_up, va_rf]
    · simp [updV, va_up, hq]) oq
  exact kk p l _ R s m args below meth c C H1 _ cells slots (hW.st hP' z) (hS.put z oq (Nat.le_add_right _ _)) hc hs la hl
theorem ev_alen {c0 n : Nat} {f : Nat → Int32} {v : Int32} (hd : dI k.2.1 pc .arraylength 1 pc') (hM : M[c0]? = some (.inl (xI X, n, .inl f))) (hv : Int32.ofNat n = v) (kk : Sem X k d pc' ls (.int v :: st) M r M' kc ks) : Sem X k d pc ls (.ref (xB X + c0) :: st) M r M' kc ks := by
  intro p l e R s m args below meth c C H locs cells slots hW hS hc hs la hl
  obtain ⟨hx, hb, hr, hml, hown, hts, hlk, hnm, hbs, hR, hE, hX⟩ := id C
  obtain ⟨hd, rfl⟩ := hd
  exact va_alen hx hb hE.1 hW.1 c0 0 (toW_get hM) (ty := .int) rfl hv hd (kk p l e R s m args below meth c C H locs cells slots hW hS hc hs la hl)
theorem ev_mmax {idx : Nat} {x y : Int32} (hd : dI k.2.1 pc (.invokestatic idx) 3 pc') (hw : Cond.methodLink k.1.cls idx Lib.Math.max.name ∈ TG) (hst : (st.map fun v => v.category).sum ≤ 8) (kk : Sem X k (d + 1) pc' ls (.int (if x < y then y else x) :: st) M r M' kc ks) : Sem X k (d + 1) pc ls (.int y :: .int x :: st) M r M' kc ks := by
  intro p l e R s m args below meth c C H locs cells slots hW hS hc hs la hl
  obtain ⟨hx, hb, hr, hml, hown, hts, hlk, hnm, hbs, hR, hE, hX⟩ := id C
  obtain ⟨hd, rfl⟩ := hd
  exact va_mmax hx hb (by rw [hml, hl.1.1]) hown (hts _ hw) (hts _ (TG_at 302 (by decide +kernel) (by decide +kernel))) (hts _ (TG_at 9 (by decide +kernel) (by decide +kernel))) (hts _ (TG_at 303 (by decide +kernel) (by decide +kernel))) (by omega) (by omega) (by omega) (by omega) hd (kk p l e R s m args below meth c C H locs cells slots hW hS hc hs la hl)
theorem ev_mmin {idx : Nat} {x y : Int32} (hd : dI k.2.1 pc (.invokestatic idx) 3 pc') (hw : Cond.methodLink k.1.cls idx Lib.Math.min.name ∈ TG) (hst : (st.map fun v => v.category).sum ≤ 8) (kk : Sem X k (d + 1) pc' ls (.int (if y < x then y else x) :: st) M r M' kc ks) : Sem X k (d + 1) pc ls (.int y :: .int x :: st) M r M' kc ks := by
  intro p l e R s m args below meth c C H locs cells slots hW hS hc hs la hl
  obtain ⟨hx, hb, hr, hml, hown, hts, hlk, hnm, hbs, hR, hE, hX⟩ := id C
  obtain ⟨hd, rfl⟩ := hd
  exact va_mmin hx hb (by rw [hml, hl.1.1]) hown (hts _ hw) (hts _ (TG_at 305 (by decide +kernel) (by decide +kernel))) (hts _ (TG_at 9 (by decide +kernel) (by decide +kernel))) (hts _ (TG_at 306 (by decide +kernel) (by decide +kernel))) (by omega) (by omega) (by omega) (by omega) hd (kk p l e R s m args below meth c C H locs cells slots hW hS hc hs la hl)
end MEM
