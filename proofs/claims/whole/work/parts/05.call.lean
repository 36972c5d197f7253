theorem lva_mem : ∀ (As : List Value), (∀ v ∈ As, v.category = 1) → ∀ (i0 i : Nat) (v : Value), As[i]? = some v → (i0 + i, v) ∈ lv_args i0 As
  | [], _, i0, i, v, h => by simp at h
  | a :: As, hc, i0, 0, v, h => by
    rw [List.getElem?_cons_zero] at h
    cases h
    exact List.mem_cons_self
  | a :: As, hc, i0, i + 1, v, h => by
    rw [List.getElem?_cons_succ] at h
    have h1 := lva_mem As (fun v hv => hc v (List.mem_cons_of_mem _ hv)) (i0 + 1) i v h
    show (i0 + (i + 1), v) ∈ (i0, a) :: lv_args (if a.category = 2 then i0 + 2 else i0 + 1) As
    rw [if_neg (by rw [hc a List.mem_cons_self]; decide)]
    rw [show i0 + (i + 1) = i0 + 1 + i by omega]
    exact List.mem_cons_of_mem _ h1
theorem lg_len : ∀ (As : List Value), (∀ v ∈ As, v.category = 1) → (lg_sl As).length = As.length
  | [], _ => rfl
  | a :: As, hc => by
    have h1 := lg_len As (fun v hv => hc v (List.mem_cons_of_mem _ hv))
    have h2 := hc a List.mem_cons_self
    simp only [lg_sl, List.flatMap_cons, List.length_append, List.length_cons] at h1 ⊢
    rw [h1, if_neg (by rw [h2]; decide)]
    simp only [List.length_singleton]
    omega
theorem cat_cons {a : Value} {As : List Value} (h : a.category = 1) (hc : ∀ v ∈ As, v.category = 1) : ∀ v ∈ a :: As, v.category = 1 := fun v hv => (List.mem_cons.mp hv).elim (fun e => e ▸ h) (hc v)
abbrev ini (k : Mth) (As : List Value) : List (Option Value) := As.map some ++ List.replicate (k.2.2.1 - As.length) none
theorem ini_LV {k : Mth} {As : List Value} (hc : ∀ v ∈ As, v.category = 1) (hn : As.length ≤ k.2.2.1) : LV k.2.2.1 (ini k As) ((lg_sl As ++ List.replicate (k.2.2.1 - (lg_sl As).length) Slot.unset).toArray) := by
  have h := lv_entry As (n := k.2.2.1) (by rw [lg_len As hc]; exact hn)
  refine ⟨⟨h.1, h.2.1, fun q hq => by cases hq⟩, fun i v hi => ?_⟩
  have hA : As[i]? = some v := by
    by_cases hl : i < As.length
    · rw [List.getElem?_append_left (by simpa using hl), List.getElem?_map] at hi
      cases ha : As[i]? with
      | none => rw [ha] at hi; cases hi
      | some w => rw [ha] at hi; simpa using hi
    · rw [List.getElem?_append_right (by simpa using hl)] at hi
      have := List.eq_of_mem_replicate (List.mem_of_getElem? hi)
      cases this
  have h1 := lva_mem As hc 0 i v hA
  rw [Nat.zero_add] at h1
  exact ⟨h.2.2 (i, v) h1, hc v (List.mem_of_getElem? hA)⟩
abbrev Pcm (X : xC) (M : List va_E) (As : List Value) : Array Value → State → Prop := va_Pc As (fun U => EnvOK X U ∧ Wd X M U.heap)
abbrev rmM (d kc ks : Nat) : Room := { frames := d, cells := kc, slots := ks, locals := d * 64 }
theorem Met_of {X : xC} {k : Mth} {d : Nat} {M M' : List va_E} {r : Option Value} {kc ks : Nat} {As : List Value} (hX : XOK X) (hp : plainName k.1.cls = true) (hc : ∀ v ∈ As, v.category = 1) (hn : As.length ≤ k.2.2.1) (h : Sem X k d 0 (ini k As) [] M r M' kc ks) (l : Launch) :
    Met l k.1 (wsM k) (rmM d kc ks) (Pcm X M As) (Qs X r M') kc ks (fun q => xB X ≤ q) := by
  refine Met.ofW (cc := k.2.1) (maxL := k.2.2.1) (ret := k.2.2.2) hp rfl ?_
  intro p e s m args below meth c s₁ B hml hv
  obtain ⟨rfl, hE, hW⟩ := hv
  have hts := atoms_spec (ws := wsM k) B.pre
  rw [lg_entry_eq]
  have h1 := h p l e (headSpec (wsM k) (rmM d kc ks)).room s m _ below meth c ⟨B.exec, B.bytes, B.returns, hml, findClass_of_methodNamed B.named, fun w hw => hts w (List.mem_cons_of_mem _ hw), B.notSynchronized, (name_of_methodNamed B.named B.method).1, by rw [hW.2]; exact Nat.le_add_right _ _, ⟨Nat.le_refl _, Nat.le_refl _⟩, hE, hX⟩ s.heap [] 0 0 hW va_S.rf (by rw [Nat.zero_add]; exact Nat.le_refl _) (by rw [Nat.zero_add]; exact Nat.le_refl _) _ (ini_LV hc hn)
  rw [Nat.zero_add, Nat.zero_add] at h1
  exact h1
theorem Pcm_blind {X : xC} {M : List va_E} {As : List Value} (hX : XOK X) : FrameBlind (Pcm X M As) := fun a U g mk h => ⟨h.1, EnvOK.move hX (State.WarmedH.refl U) (fun _ _ => rfl) h.2.1, h.2.2⟩
theorem Pcm_at {X : xC} {M : List va_E} {As : List Value} (hX : XOK X) {s : State} {H : Heap} {locs : List Loc} (hE : EnvOK X s) (hW : Wd X M H) (hS : va_S (fun q => xB X ≤ q) s.heap H locs) (hbs : xB X ≤ s.heap.size) : ∀ U : State, U.heap = H → s.WarmedH U.vm → Pcm X M As As.toArray U :=
  fun U hU hWm => ⟨rfl, EnvOK.move hX hWm (fun q hq => by rw [hU]; exact hS.2.1 q (Nat.lt_of_lt_of_le hq hbs) (Nat.not_le.mpr hq)) hE, by rw [hU]; exact hW⟩
theorem my_call {p : Program} {l : Launch} {e : Env} {R : Room} {s : State} {m : MethodId} {args : Array Value} {below : List Frame} {meth : Method} {c : Code} {H : Heap} {locs : List Loc} {cells slots mc ms : Nat} {Q : State → Prop} {pc : Nat} {la : Array Slot} {rest st0 : List Value} {a : Array Value} {X : xC} {r1 : Option Value} {M1 : List va_E}
    (hr : va_Run p l e R s m args below meth c H locs cells slots mc ms (F0 m pc la st0) rest (Qs X r1 M1 a) (fun q => xB X ≤ q)) (hS : va_S (fun q => xB X ≤ q) s.heap H locs)
    (kk : ∀ (H1 : Heap) (locs1 : List Loc), Wd X M1 H1 → va_S (fun q => xB X ≤ q) s.heap H1 locs1 → W p l e R s m args below meth c H1 locs1 (cells + mc) (slots + ms) Q (F0 m (pc + 3) la (r1.toList ++ rest))) : W p l e R s m args below meth c H locs cells slots Q (F0 m pc la st0) := by
  intro T hT Y
  obtain ⟨v, st₀, t, T', L, h0, X', hL, e1, e2, ⟨hv, hW1, hz, hk⟩, stp⟩ := hr T hT Y
  cases hv
  rw [h0] at hz hk
  obtain ⟨t2, a1, b1⟩ := kk T'.heap (locs ++ L) (by rw [e1]; exact hW1) ⟨Nat.le_trans hS.1 (by rw [e1]; exact hz), fun q h1 h2 => by rw [e1, hk q (Nat.lt_of_lt_of_le h1 hS.1) h2]; exact hS.2.1 q h1 h2, fun q hq => by
      rcases List.mem_append.mp hq with h | h
      · exact hS.2.2 q h
      · exact hL q h⟩ T' rfl X'
  exact ⟨t2, stp t2 a1, b1⟩
/-- what a call asks of the method called, n arguments behind the receiver -/
def CalK (k2 : Mth) (n : Nat) : Prop := Cond.initialized k2.1.cls ∈ TG ∧ Cond.code k2.1 k2.2.1 k2.2.2.1 k2.2.2.2 ∈ TG ∧ plainName k2.1.cls = true ∧ (k2.1.cls ≠ "java/lang/invoke/MethodHandle" ∧ k2.1.cls ≠ "java/lang/invoke/VarHandle") ∧ (parseMethodDescriptor k2.1.desc).map (fun d => d.parameters.length) = some n ∧ k2.2.2.1 ≤ 45
def StaK (k2 : Mth) (n : Nat) : Prop := CalK k2 n ∧ Cond.static k2.1 ∈ TG ∧ n ≤ k2.2.2.1
def InsK (k2 : Mth) (n : Nat) : Prop := CalK k2 n ∧ Cond.instanceMethod k2.1 ∈ TG ∧ n + 1 ≤ k2.2.2.1
def VirK (k2 : Mth) (n : Nat) : Prop := InsK k2 n ∧ Cond.selects k2.1.cls k2.1 k2.1 ∈ TG
theorem CalK.good {k2 : Mth} {n : Nat} (h : CalK k2 n) : GoodIn TG (wsM k2) := fun w hw => by
  rcases List.mem_cons.mp hw with rfl | h1
  · exact TG_good _ h.2.1
  · exact TG_good _ h1
theorem CalK.B {k2 : Mth} {n d d' kc ks : Nat} {R : Room} {s : State} {args : Array Value} {own : String} {idx : Nat} (h : CalK k2 n) (hts : ∀ w ∈ TG, w.before args s = true) (hl : (Cond.methodLink own idx k2.1).before args s = true) (hR : d + 1 ≤ R.frames ∧ (d + 1) * 64 ≤ R.locals) :
    CallB R s args own idx k2.1 k2.2.1 k2.2.2.1 k2.2.2.2 (wsM k2) (rmM d kc ks) kc ks n := by
  obtain ⟨h1, h2, h3, h4, h5, h6⟩ := id h
  refine ⟨rfl, rfl, hR.1, ?_, pay_in hts h.good, List.mem_cons_self, hts _ h2, hts _ h1, h4, fun sig hs => ?_, hl⟩
  · show 8 + (k2.2.2.1 + 11) + d * 64 ≤ R.locals
    have := hR.2
    omega
  · rw [hs] at h5
    exact (Option.some.inj h5).symm
theorem CalK.N {k2 : Mth} {n d d' kc ks : Nat} {R : Room} {s : State} {args : Array Value} {own host : String} {idx : Nat} (h : CalK k2 n) (hts : ∀ w ∈ TG, w.before args s = true) (hl : va_Nw (.methodLinkNest own idx k2.1 host) s) (hR : d + 1 ≤ R.frames ∧ (d + 1) * 64 ≤ R.locals) :
    va_CN R s args own idx k2.1 host k2.2.1 k2.2.2.1 k2.2.2.2 (wsM k2) (rmM d kc ks) kc ks n := by
  obtain ⟨h1, h2, h3, h4, h5, h6⟩ := id h
  refine ⟨⟨rfl, rfl, hR.1, ?_, pay_in hts h.good, List.mem_cons_self⟩, hts _ h2, hts _ h1, h4, fun sig hs => ?_, va_Nw.use rfl hl⟩
  · show 8 + (k2.2.2.1 + 11) + d * 64 ≤ R.locals
    have := hR.2
    omega
  · rw [hs] at h5
    exact (Option.some.inj h5).symm
section CALL
variable {X : xC} {k : Mth} {d pc pc' tgt : Nat} {ls : List (Option Value)} {st : List Value} {M M' : List va_E} {r : Option Value} {kc ks : Nat}
variable {k2 : Mth} {idx : Nat} {As : List Value} {r1 : Option Value} {M1 : List va_E} {k1 s1 : Nat}
theorem ev_callS (hd : dI k.2.1 pc (.invokestatic idx) 3 pc') (hw : Cond.methodLink k.1.cls idx k2.1 ∈ TG) (hk : StaK k2 As.length) (hca : ∀ v ∈ As, v.category = 1) (hst : (st.map fun v => v.category).sum ≤ 8) (h : Sem X k2 d 0 (ini k2 As) [] M r1 M1 k1 s1) (kk : Sem X k (d + 1) pc' ls (r1.toList ++ st) M1 r M' kc ks) : Sem X k (d + 1) pc ls (As.reverse ++ st) M r M' (k1 + kc) (s1 + ks) := by
  intro p l e R s m args below meth c C H locs cells slots hW hS hc hs la hl
  obtain ⟨hx, hb, hr, hml, hown, hts, hlk, hnm, hbs, hR, hE, hX⟩ := id C
  obtain ⟨hd, rfl⟩ := hd
  refine my_call (va_runS (As := As) (rest := st) ⟨hx, hb, hml, hown, hts⟩ (Met_of hX hk.1.2.2.1 hca hk.2.2 h l) ⟨hk.1.B (d' := d) hts (hts _ hw) hR, hts _ hk.2.1⟩ ⟨Pcm_blind hX, Pcm_at hX hE hW hS hbs⟩ rfl rfl hl.1.1 rfl (lv_room hst) hd ⟨by omega, by omega⟩) hS (fun H1 locs1 hW1 hS1 => ?_)
  have h2 := kk p l e R s m args below meth c C H1 locs1 (cells + k1) (slots + s1) hW1 hS1 (by omega) (by omega) la hl
  rw [Nat.add_assoc, Nat.add_assoc] at h2
  exact h2
theorem ev_callSN {host : String} (hd : dI k.2.1 pc (.invokestatic idx) 3 pc') (hw : (k.1.cls, idx, k2.1, host) ∈ nests) (hk : StaK k2 As.length) (hca : ∀ v ∈ As, v.category = 1) (hst : (st.map fun v => v.category).sum ≤ 8) (h : Sem X k2 d 0 (ini k2 As) [] M r1 M1 k1 s1) (kk : Sem X k (d + 1) pc' ls (r1.toList ++ st) M1 r M' kc ks) : Sem X k (d + 1) pc ls (As.reverse ++ st) M r M' (k1 + kc) (s1 + ks) := by
  intro p l e R s m args below meth c C H locs cells slots hW hS hc hs la hl
  obtain ⟨hx, hb, hr, hml, hown, hts, hlk, hnm, hbs, hR, hE, hX⟩ := id C
  obtain ⟨hd, rfl⟩ := hd
  refine my_call (va_runSN (As := As) (rest := st) ⟨hx, hb, hml, hown, hts⟩ (Met_of hX hk.1.2.2.1 hca hk.2.2 h l) ⟨hk.1.N (d' := d) hts (hE.2.1 _ hw) hR, hts _ hk.2.1, trivial⟩ ⟨Pcm_blind hX, Pcm_at hX hE hW hS hbs⟩ rfl rfl hl.1.1 rfl (lv_room hst) hd ⟨by omega, by omega⟩) hS (fun H1 locs1 hW1 hS1 => ?_)
  have h2 := kk p l e R s m args below meth c C H1 locs1 (cells + k1) (slots + s1) hW1 hS1 (by omega) (by omega) la hl
  rw [Nat.add_assoc, Nat.add_assoc] at h2
  exact h2
theorem ev_callV {c0 ci : Nat} {fs : List Value} {q : vw_C} (hd : dI k.2.1 pc (.invokevirtual idx) 3 pc') (hw : Cond.methodLink k.1.cls idx k2.1 ∈ TG) (hk : VirK k2 As.length) (hM : M[c0]? = some (.inr (ci, fs))) (hq : cls[ci]? = some q) (hC : q.1 = k2.1.cls) (hca : ∀ v ∈ As, v.category = 1) (hst : (st.map fun v => v.category).sum ≤ 8) (h : Sem X k2 d 0 (ini k2 (.ref (xB X + c0) :: As)) [] M r1 M1 k1 s1) (kk : Sem X k (d + 1) pc' ls (r1.toList ++ st) M1 r M' kc ks) : Sem X k (d + 1) pc ls (As.reverse ++ .ref (xB X + c0) :: st) M r M' (k1 + kc) (s1 + ks) := by
  intro p l e R s m args below meth c C H locs cells slots hW hS hc hs la hl
  obtain ⟨hx, hb, hr, hml, hown, hts, hlk, hnm, hbs, hR, hE, hX⟩ := id C
  obtain ⟨hd, rfl⟩ := hd
  refine my_call (va_runV (As := As) (rest := st) ⟨hx, hb, hml, hown, hts⟩ (Met_of hX hk.1.1.2.2.1 (As := .ref (xB X + c0) :: As) (cat_cons rfl hca) hk.1.2.2 h l) ⟨hk.1.1.B (d' := d) hts (hts _ hw) hR, hts _ hk.1.2.1, hts _ hk.2⟩ ⟨Pcm_blind hX, (by rw [← hC]; exact va_recv hE.1 hW.1 hq (toW_get hM)), Pcm_at hX hE hW hS hbs⟩ rfl rfl hl.1.1 rfl (lv_room hst) hd ⟨by omega, by omega⟩) hS (fun H1 locs1 hW1 hS1 => ?_)
  have h2 := kk p l e R s m args below meth c C H1 locs1 (cells + k1) (slots + s1) hW1 hS1 (by omega) (by omega) la hl
  rw [Nat.add_assoc, Nat.add_assoc] at h2
  exact h2
theorem ev_callI {c0 : Nat} (hd : dI k.2.1 pc (.invokespecial idx) 3 pc') (hw : Cond.methodLink k.1.cls idx k2.1 ∈ TG) (hk : InsK k2 As.length) (hin : k2.1.name = "<init>") (hrt : k2.2.2.2 = none) (hca : ∀ v ∈ As, v.category = 1) (hst : (st.map fun v => v.category).sum ≤ 8) (h : Sem X k2 d 0 (ini k2 (.ref (xB X + c0) :: As)) [] M r1 M1 k1 s1) (kk : Sem X k (d + 1) pc' ls (r1.toList ++ st) M1 r M' kc ks) : Sem X k (d + 1) pc ls (As.reverse ++ .ref (xB X + c0) :: st) M r M' (k1 + kc) (s1 + ks) := by
  intro p l e R s m args below meth c C H locs cells slots hW hS hc hs la hl
  obtain ⟨hx, hb, hr, hml, hown, hts, hlk, hnm, hbs, hR, hE, hX⟩ := id C
  obtain ⟨hd, rfl⟩ := hd
  have hB := hk.1.B (d := d) (d' := d) (kc := k1) (ks := s1) hts (hts _ hw) hR
  rw [hrt] at hB
  refine my_call (va_runI (As := As) (rest := st) ⟨hx, hb, hml, hown, hts⟩ (Met_of hX hk.1.2.2.1 (As := .ref (xB X + c0) :: As) (cat_cons rfl hca) hk.2.2 h l) ⟨hB, hin, hts _ hk.2.1⟩ ⟨Pcm_blind hX, Pcm_at hX hE hW hS hbs⟩ rfl rfl hl.1.1 rfl (lv_room hst) hd ⟨by omega, by omega⟩) hS (fun H1 locs1 hW1 hS1 => ?_)
  have h2 := kk p l e R s m args below meth c C H1 locs1 (cells + k1) (slots + s1) hW1 hS1 (by omega) (by omega) la hl
  rw [Nat.add_assoc, Nat.add_assoc] at h2
  exact h2
theorem ev_callIN {c0 : Nat} {host : String} (hd : dI k.2.1 pc (.invokespecial idx) 3 pc') (hw : (k.1.cls, idx, k2.1, host) ∈ nests) (hk : InsK k2 As.length) (hin : k2.1.name = "<init>") (hrt : k2.2.2.2 = none) (hca : ∀ v ∈ As, v.category = 1) (hst : (st.map fun v => v.category).sum ≤ 8) (h : Sem X k2 d 0 (ini k2 (.ref (xB X + c0) :: As)) [] M r1 M1 k1 s1) (kk : Sem X k (d + 1) pc' ls (r1.toList ++ st) M1 r M' kc ks) : Sem X k (d + 1) pc ls (As.reverse ++ .ref (xB X + c0) :: st) M r M' (k1 + kc) (s1 + ks) := by
  intro p l e R s m args below meth c C H locs cells slots hW hS hc hs la hl
  obtain ⟨hx, hb, hr, hml, hown, hts, hlk, hnm, hbs, hR, hE, hX⟩ := id C
  obtain ⟨hd, rfl⟩ := hd
  have hB := hk.1.N (d := d) (d' := d) (kc := k1) (ks := s1) hts (hE.2.1 _ hw) hR
  rw [hrt] at hB
  refine my_call (va_runIN (As := As) (rest := st) ⟨hx, hb, hml, hown, hts⟩ (Met_of hX hk.1.2.2.1 (As := .ref (xB X + c0) :: As) (cat_cons rfl hca) hk.2.2 h l) ⟨hB, hin, hts _ hk.2.1⟩ ⟨Pcm_blind hX, Pcm_at hX hE hW hS hbs⟩ rfl rfl hl.1.1 rfl (lv_room hst) hd ⟨by omega, by omega⟩) hS (fun H1 locs1 hW1 hS1 => ?_)
  have h2 := kk p l e R s m args below meth c C H1 locs1 (cells + k1) (slots + s1) hW1 hS1 (by omega) (by omega) la hl
  rw [Nat.add_assoc, Nat.add_assoc] at h2
  exact h2
theorem ev_objInit {a : Nat} (hd : dI k.2.1 pc (.invokespecial idx) 3 pc') (hw : Cond.methodLink k.1.cls idx Lib.objectInit ∈ TG) (hst : (st.map fun v => v.category).sum ≤ 8) (kk : Sem X k (d + 1) pc' ls st M r M' kc ks) : Sem X k (d + 1) pc ls (.ref a :: st) M r M' kc ks := by
  intro p l e R s m args below meth c C H locs cells slots hW hS hc hs la hl
  obtain ⟨hx, hb, hr, hml, hown, hts, hlk, hnm, hbs, hR, hE, hX⟩ := id C
  obtain ⟨hd, rfl⟩ := hd
  exact W.objInit hx hb hown (hts _ hw) (hts _ (TG_at 21 (by decide +kernel) (by decide +kernel))) (hts _ (TG_at 22 (by decide +kernel) (by decide +kernel))) rfl (by rw [hml]; exact hl.1.1) rfl hd (by omega) (by show 2 * 0 + _ + 12 ≤ _; omega) (kk p l e R s m args below meth c C H locs cells slots hW hS hc hs la hl)
theorem ev_new {c0 ci : Nat} {q : vw_C} {fs : List Value} (hd : dI k.2.1 pc (.new idx) 3 pc') (hq : cls[ci]? = some q) (hw : Cond.classLink k.1.cls idx q.1 ∈ TG) (hi : Cond.instantiable q.1 q.2.2 ∈ TG) (hn : Cond.initialized q.1 ∈ TG) (hfs : ∀ j, j < q.2.2 → defaultValue (clsT ci j) = vp_V fs j) (hlen : M.length = c0) (kk : Sem X k d pc' ls (.ref (xB X + c0) :: st) (M ++ [.inr (ci, fs)]) r M' kc ks) : Sem X k d pc ls st M r M' (1 + kc) (q.2.2 + ks) := by
  intro p l e R s m args below meth c C H locs cells slots hW hS hc hs la hl
  obtain ⟨hx, hb, hr, hml, hown, hts, hlk, hnm, hbs, hR, hE, hX⟩ := id C
  obtain ⟨hd, rfl⟩ := hd
  have hKn := hE.1.1 ci _ hq
  refine W.newcK hx hb hown (hts _ hw) (hts _ hi) (hts _ hn) rfl hd (by omega) (by omega) hKn.2.1 rfl fun H1 kC hkC e1 z1 o1 => ?_
  have hW1 : Wd X (M ++ [.inr (ci, fs)]) H1 := hW.push o1 z1 ⟨_, hq, (u_born (clsT ci) hts (i_cls ci _ hq) hKn hkC e1 (t_cls ci _ hq)).to hfs⟩
  have h2 := kk p l e R s m args below meth c C H1 locs (cells + 1) (slots + q.2.2) hW1 ⟨Nat.le_trans hS.1 (by omega), fun x h1 h2 => (o1 x (Nat.lt_of_lt_of_le h1 hS.1)).trans (hS.2.1 x h1 h2), hS.2.2⟩ (by omega) (by omega) la hl
  rw [Nat.add_assoc, Nat.add_assoc] at h2
  rw [hW.2, hlen]
  exact h2
theorem ev_newa {c0 N : Nat} {n : Int32} (hd : dI k.2.1 pc (.newarray .int) 2 pc') (hn : ¬ n < 0) (hN : n.toNatClampNeg = N) (hb4 : N ≤ 1000000) (hlen : M.length = c0) (hxI : ∀ U, EnvOK X U → U.vm.findClass "[I" = some (xI X)) (kk : Sem X k d pc' ls (.ref (xB X + c0) :: st) (M ++ [.inl (xI X, N, .inl (fun _ => 0))]) r M' kc ks) : Sem X k d pc ls (.int n :: st) M r M' (1 + kc) (N + ks) := by
  intro p l e R s m args below meth c C H locs cells slots hW hS hc hs la hl
  obtain ⟨hx, hb, hr, hml, hown, hts, hlk, hnm, hbs, hR, hE, hX⟩ := id C
  obtain ⟨hd, rfl⟩ := hd
  refine va_newaK (atype := .int) hx hb (hts _ (TG_at 45 (by decide +kernel) (by decide +kernel))) rfl hd rfl hn hN (by show N * 4 ≤ _; omega) (by omega) (by omega) rfl fun H1 cA e1 z1 o1 hAr hNm => ?_
  have hcA : cA = xI X := Option.some.inj (hNm.symm.trans (hxI s hE))
  subst hcA
  have hW1 : Wd X (M ++ [.inl (xI X, N, .inl (fun _ => 0))]) H1 := hW.push o1 z1 (by
    show H1[H.size]? = some (vp_cell _ _)
    rw [e1, vp_cell_i]
    rfl)
  have h2 := kk p l e R s m args below meth c C H1 locs (cells + 1) (slots + N) hW1 ⟨Nat.le_trans hS.1 (by omega), fun x h1 h2 => (o1 x (Nat.lt_of_lt_of_le h1 hS.1)).trans (hS.2.1 x h1 h2), hS.2.2⟩ (by omega) (by omega) la hl
  rw [Nat.add_assoc, Nat.add_assoc] at h2
  rw [hW.2, hlen]
  exact h2
theorem ev_newq {c0 N t : Nat} {cA : ClassId} {Cn : String} {n : Int32} (hd : dI k.2.1 pc (.anewarray idx) 3 pc') (hw : Cond.classLink k.1.cls idx Cn ∈ TG) (hao : ∀ U, EnvOK X U → va_AO Cn U) (hn : ¬ n < 0) (hN : n.toNatClampNeg = N) (hb4 : N ≤ 1000000) (hlen : M.length = c0) (ht : (xTys X)[t]? = some (cA, .object Cn)) (kk : Sem X k d pc' ls (.ref (xB X + c0) :: st) (M ++ [.inl (cA, N, .inr (.inr (.inr (.inr (fun _ => none)))))]) r M' kc ks) : Sem X k d pc ls (.int n :: st) M r M' (1 + kc) (N + ks) := by
  intro p l e R s m args below meth c C H locs cells slots hW hS hc hs la hl
  obtain ⟨hx, hb, hr, hml, hown, hts, hlk, hnm, hbs, hR, hE, hX⟩ := id C
  obtain ⟨hd, rfl⟩ := hd
  subst hN
  refine W.anew hx hb hown (hts _ hw) (va_AO.use (hao s hE)) rfl hd rfl hn (by omega) (by omega) (by omega) fun cA' kA comp f1 f2 f3 f4 => ?_
  obtain ⟨kA2, comp2, w1, w2, w3, w4⟩ := (hE.1.2 t _ ht).2
  have hcA : cA' = cA := Option.some.inj (f1.symm.trans w4)
  subst hcA
  generalize hH1 : H.push ({ cls := cA', slots := Array.replicate n.toNatClampNeg .null, vm := .none } : Cell) = H1
  have z1 : H1.size = H.size + 1 := by rw [← hH1, Array.size_push]
  have e1 : H1[H.size]? = some (arrV cA' n.toNatClampNeg (fun _ => .null)) := by rw [← hH1, Array.getElem?_push_size, ← arrV_new]
  have o1 : ∀ q : Nat, q < H.size → H1[q]? = H[q]? := fun q hq => by rw [← hH1, Array.getElem?_push, if_neg (Nat.ne_of_lt hq)]
  have hW1 : Wd X (M ++ [.inl (cA', n.toNatClampNeg, .inr (.inr (.inr (.inr (fun _ => none)))))]) H1 := hW.push o1 z1 (by
    show H1[H.size]? = some (vp_cell _ _)
    rw [vp_cell_q]
    exact e1)
  have h2 := kk p l e R s m args below meth c C H1 locs (cells + 1) (slots + n.toNatClampNeg) hW1 ⟨Nat.le_trans hS.1 (by omega), fun x h1 h2 => (o1 x (Nat.lt_of_lt_of_le h1 hS.1)).trans (hS.2.1 x h1 h2), hS.2.2⟩ (by omega) (by omega) la hl
  rw [Nat.add_assoc, Nat.add_assoc] at h2
  rw [hW.2, hlen]
  exact h2
theorem nfw : nativeFrameWords "java/lang/System" "arraycopy" 5 + 11 ≤ 56 := by decide +kernel
theorem ev_copy {c0 c1 n0 n1 : Nat} {f g : Nat → Int32} {sp dp n : Int32} (hd : dI k.2.1 pc (.invokestatic idx) 3 pc') (hw : Cond.methodLink k.1.cls idx arraycopyName ∈ TG) (hst : (st.map fun v => v.category).sum ≤ 8) (hM0 : M[c0]? = some (.inl (xI X, n0, .inl f))) (hM1 : M[c1]? = some (.inl (xI X, n1, .inl g))) (h1 : ¬ sp < 0) (h2 : ¬ dp < 0) (h3 : ¬ n < 0) (h4 : sp.toNatClampNeg + n.toNatClampNeg ≤ n0) (h5 : dp.toNatClampNeg + n.toNatClampNeg ≤ n1)
    (kk : Sem X k (d + 1) pc' ls st (M.set c1 (.inl (xI X, n1, .inl (va_cpy f g sp.toNatClampNeg dp.toNatClampNeg n.toNatClampNeg)))) r M' kc ks) : Sem X k (d + 1) pc ls (.int n :: .int dp :: .ref (xB X + c1) :: .int sp :: .ref (xB X + c0) :: st) M r M' kc ks := by
  intro p l e R s m args below meth c C H locs cells slots hW hS hc hs la hl
  obtain ⟨hx, hb, hr, hml, hown, hts, hlk, hnm, hbs, hR, hE, hX⟩ := id C
  obtain ⟨hd, rfl⟩ := hd
  have nn : ∀ z : Int32, ¬ z < 0 → z.toInt = (z.toNatClampNeg : Int) := by
    intro z hz
    have hz0 : (0 : Int) ≤ z.toInt := by
      have := Int32.not_lt.mp hz
      simpa using Int32.le_iff_toInt_le.mp this
    show z.toInt = ((z.toInt.toNat : Nat) : Int)
    omega
  intro T hT Y
  have hc0 : H[xB X + c0]? = some (vp_cell (xI X) (n0, .inl f)) := hW.1 c0 _ (toW_get hM0)
  have hc1 : H[xB X + c1]? = some (vp_cell (xI X) (n1, .inl g)) := hW.1 c1 _ (toW_get hM1)
  obtain ⟨-, k0, hk0, cm0, hkk0⟩ := (hE.1.2 0 _ rfl).1 n0 (fun j => .int (f j))
  obtain ⟨-, kb, hkb, cm1, hkk1⟩ := (hE.1.2 0 _ rfl).1 n1 (fun j => .int (g j))
  obtain ⟨vm', X', step⟩ := Y.arraycopy hx hown (hts _ hw) (hts _ (TG_at 327 (by decide +kernel) (by decide +kernel))) (hts _ (TG_at 326 (by decide +kernel) (by decide +kernel))) (hts _ (TG_at 10 (by decide +kernel) (by decide +kernel))) (src := xB X + c0) (dst := xB X + c1) (cs := vp_cell (xI X) (n0, .inl f)) (cd := vp_cell (xI X) (n1, .inl g)) (srcPos := sp) (destPos := dp) (n := n) (by rw [hT]; exact hc0) (by rw [hT]; exact hc1)
    (fun _ h => by cases h) (fun _ h => by cases h) (fun h => by cases h) (fun h => by cases h) hk0 hkb hkk0 hkk1 (by simp [refKind]) h1 h2 h3
    (by rw [nn sp h1, nn n h3]; show ¬ _ > ((arrV (xI X) n0 (fun j => .int (f j))).slots.size : Int); rw [arrV_size]; omega)
    (by rw [nn dp h2, nn n h3]; show ¬ _ > ((arrV (xI X) n1 (fun j => .int (g j))).slots.size : Int); rw [arrV_size]; omega)
    (fun vm₁ _ i hi => by
      have e : (vp_cell (xI X) (n0, .inl f)).slots.getD (sp.toNatClampNeg + i) .null = .int (f (sp.toNatClampNeg + i)) := by
        show (arrV (xI X) n0 (fun j => .int (f j))).slots.getD _ _ = _
        rw [Array.getD_eq_getD_getElem?, arrV_read _ _ (by omega)]
        rfl
      refine ⟨?_, ?_⟩
      · rw [e]
        rfl
      · rw [e]
        exact trivial)
    (g := F0 m pc la (.int n :: .int dp :: .ref (xB X + c1) :: .int sp :: .ref (xB X + c0) :: st)) rfl (by rw [hml]; exact hl.1.1) (rest := st) rfl (by rw [hb]; exact hd) (by omega) (by show 2 * 0 + _ + (nativeFrameWords "java/lang/System" "arraycopy" 5 + 11) ≤ _; exact Nat.le_trans (Nat.add_le_add (by omega) nfw) (by omega : 8 + 56 ≤ _))
  have e1 : copied (vp_cell (xI X) (n0, .inl f)) (vp_cell (xI X) (n1, .inl g)) sp dp n = vp_cell (xI X) (n1, .inl (va_cpy f g sp.toNatClampNeg dp.toNatClampNeg n.toNatClampNeg)) := va_copied (fun z => .int z) (xI X) (xI X) f g h4
  rw [e1] at X' step
  have hlt : xB X + c1 < H.size := (Array.getElem?_eq_some_iff.mp hc1).1
  have hheap : ((T.setVm vm').setCell (xB X + c1) (vp_cell (xI X) (n1, .inl (va_cpy f g sp.toNatClampNeg dp.toNatClampNeg n.toNatClampNeg)))).heap = H.setIfInBounds (xB X + c1) (vp_cell (xI X) (n1, .inl (va_cpy f g sp.toNatClampNeg dp.toNatClampNeg n.toNatClampNeg))) := by rw [← hT]; rfl
  have oq : ∀ q : Nat, q ≠ xB X + c1 → (H.setIfInBounds (xB X + c1) (vp_cell (xI X) (n1, .inl (va_cpy f g sp.toNatClampNeg dp.toNatClampNeg n.toNatClampNeg))))[q]? = H[q]? := fun q hq => by simp [Array.getElem?_setIfInBounds, Ne.symm hq]
  have hP' := va_P.set hW.1 (toW_D (b := xB X)) (toW_get hM1) (e := .inl (xI X, n1, .inl (va_cpy f g sp.toNatClampNeg dp.toNatClampNeg n.toNatClampNeg))) (show (H.setIfInBounds (xB X + c1) _)[xB X + c1]? = some _ by simp [Array.getElem?_setIfInBounds, hlt]) oq
  obtain ⟨t, a1, b1⟩ := kk p l e R s m args below meth c C _ _ cells slots (hW.st hP' (by simp)) ⟨by simp; exact hS.1, fun q g1 g2 => by
      rw [oq q (fun e => g2 (by rw [e]; exact Nat.le_add_right _ _))]
      exact hS.2.1 q g1 g2, fun q hq => by
      rcases List.mem_append.mp hq with h | h
      · exact hS.2.2 q h
      · obtain ⟨z, -, hz⟩ := List.mem_map.mp h
        rw [← hz]
        exact Nat.le_add_right _ _⟩ hc hs la hl _ hheap X'
  exact ⟨t, step t a1, b1⟩
end CALL
