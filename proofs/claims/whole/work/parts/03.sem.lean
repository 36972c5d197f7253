/-! ===== the judgement Sem: a method's run from a place on, over a pure memory: a list of cells, the cell at place c lies at the address base + c ===== -/
abbrev xC : Type := Nat × va_G × ClassId × (Nat → ClassId) × (State → Prop)
abbrev xB (X : xC) : Nat := X.1
abbrev xD (X : xC) : va_G := X.2.1
abbrev xI (X : xC) : ClassId := X.2.2.1
abbrev xR (X : xC) : Nat → ClassId := X.2.2.2.1
abbrev xE (X : xC) : State → Prop := X.2.2.2.2
def xTys (X : xC) : List (ClassId × FieldType) := [(xI X, .int), (xR X 0, .object "SandLorry$Lorry"), (xR X 1, .object "SandLorry$Sheet")]
def TG : List Cond := lw_tbl.filter goodWord
theorem TG_at (i : Nat) {w : Cond} (h : tables_1[i]? = some w) (hg : goodWord w = true) : w ∈ TG := List.mem_filter.mpr ⟨List.mem_append_right _ (List.mem_of_getElem? h), hg⟩
theorem TG_sel (i : Nat) {w : Cond} (h : (k2_sels lw_privs)[i]? = some w) (hg : goodWord w = true) : w ∈ TG := List.mem_filter.mpr ⟨List.mem_append_left _ (List.mem_of_getElem? h), hg⟩
theorem TG_good : GoodIn TG TG := fun w h => ⟨h, good_of_word (List.mem_filter.mp h).2⟩
abbrev wsM (k : Mth) : List Cond := .code k.1 k.2.1 k.2.2.1 k.2.2.2 :: TG
def nests : List (String × Nat × MethodName × String) := [("SandLorry", 48, ⟨"SandLorry$Tape", "<init>", "()V"⟩, "SandLorry"), ("SandLorry", 55, ⟨"SandLorry$Sheet", "<init>", "()V"⟩, "SandLorry"), ("SandLorry$Lorry", 32, ⟨"SandLorry", "weightOf", "(II)I"⟩, "SandLorry"), ("SandLorry$Lorry", 24, ⟨"SandLorry", "isYard", "(I)Z"⟩, "SandLorry"), ("SandLorry$Lorry", 36, ⟨"SandLorry", "workOf", "(I)I"⟩, "SandLorry"), ("SandLorry$Lorry", 53, ⟨"SandLorry", "isOfKind", "(II)Z"⟩, "SandLorry"), ("SandLorry$Tape", 62, ⟨"SandLorry", "isYard", "(I)Z"⟩, "SandLorry"), ("SandLorry$Tape", 68, ⟨"SandLorry", "leastOf", "(I)I"⟩, "SandLorry"), ("SandLorry$Tape", 72, ⟨"SandLorry", "mostOf", "(I)I"⟩, "SandLorry"), ("SandLorry", 164, ⟨"SandLorry$Search", "tryRows", "(LSandLorry$Search;III)V"⟩, "SandLorry")]
def toW (b : Nat) (M : List va_E) : va_W := M.mapIdx (fun c e => (b + c, e))
theorem toW_get {b : Nat} {M : List va_E} {c : Nat} {e : va_E} (h : M[c]? = some e) : (toW b M)[c]? = some (b + c, e) := by
  simp [toW, List.getElem?_mapIdx, h]
theorem toW_inv {b : Nat} {M : List va_E} {c : Nat} {q : Nat × va_E} (h : (toW b M)[c]? = some q) : ∃ e, M[c]? = some e ∧ q = (b + c, e) := by
  simp only [toW, List.getElem?_mapIdx, Option.map_eq_some_iff] at h
  obtain ⟨e, h1, h2⟩ := h
  exact ⟨e, h1, h2.symm⟩
theorem toW_set {b : Nat} {M : List va_E} {c : Nat} {e : va_E} : (toW b M).set c (b + c, e) = toW b (M.set c e) := by
  apply List.ext_getElem?
  intro i
  by_cases hi : i = c
  · subst hi
    by_cases hl : i < M.length
    · rw [List.getElem?_set_self (by simpa [toW] using hl), toW_get (List.getElem?_set_self hl)]
    · rw [List.getElem?_eq_none (by simpa [toW] using hl), List.getElem?_eq_none (by simpa [toW] using hl)]
  · rw [List.getElem?_set_ne (Ne.symm hi)]
    simp only [toW, List.getElem?_mapIdx]
    rw [List.getElem?_set_ne (Ne.symm hi)]
theorem toW_push {b : Nat} {M : List va_E} {e : va_E} : toW b M ++ [(b + M.length, e)] = toW b (M ++ [e]) := by
  simp [toW, List.mapIdx_append]
theorem toW_D {b : Nat} {M : List va_E} : va_D (fun q => b ≤ q) (toW b M) := by
  refine ⟨fun i j p q hi hj he => ?_, fun i q hi => ?_⟩
  · obtain ⟨e1, -, rfl⟩ := toW_inv hi
    obtain ⟨e2, -, rfl⟩ := toW_inv hj
    exact Nat.add_left_cancel he
  · obtain ⟨e1, -, rfl⟩ := toW_inv hi
    exact Nat.le_add_right _ _
def Wd (X : xC) (M : List va_E) (H : Heap) : Prop := va_P (xD X) cls (toW (xB X) M) H ∧ H.size = xB X + M.length
def EnvOK (X : xC) (U : State) : Prop := va_K (xD X) cls (xTys X) U ∧ (∀ q ∈ nests, va_Nw (.methodLinkNest q.1 q.2.1 q.2.2.1 q.2.2.2) U) ∧ va_AO "SandLorry$Lorry" U ∧ va_AO "SandLorry$Sheet" U ∧ xE X U
def XOK (X : xC) : Prop := ∀ u U : State, u.WarmedH U.vm → (∀ q, q < xB X → U.heap[q]? = u.heap[q]?) → xE X u → xE X U
theorem EnvOK.move {X : xC} (hX : XOK X) {s U : State} (hW : s.WarmedH U.vm) (hq : ∀ q, q < xB X → U.heap[q]? = s.heap[q]?) (h : EnvOK X s) : EnvOK X U :=
  ⟨va_K.moved hW.alike h.1, fun q hq => va_Nw.warmM hW (h.2.1 q hq), va_AO.moved hW.alike h.2.2.1, va_AO.moved hW.alike h.2.2.2.1, hX _ _ hW hq h.2.2.2.2⟩
def CtxOK (X : xC) (k : Mth) (d : Nat) (p : Program) (R : Room) (s : State) (m : MethodId) (args : Array Value) (meth : Method) (c : Code) : Prop :=
  p.tables.exec = Jvm.exec ∧ c.code = k.2.1 ∧ meth.sig.returnType = k.2.2.2 ∧ c.maxLocals = k.2.2.1 ∧ s.vm.findClass k.1.cls = some m.cls ∧ (∀ w ∈ TG, w.before args s = true) ∧ meth.locks = false ∧ meth.name = k.1.name ∧ xB X ≤ s.heap.size ∧ (d ≤ R.frames ∧ d * 64 ≤ R.locals) ∧ EnvOK X s ∧ XOK X
def LV (n : Nat) (ls : List (Option Value)) (la : Array Slot) : Prop := lv_has la n [] ∧ ∀ (i : Nat) (v : Value), ls[i]? = some (some v) → la[i]? = some (.val v) ∧ v.category = 1
def Qs (X : xC) (r : Option Value) (M : List va_E) : Array Value → State → Outcome → State → Prop := fun _ st o t => o = .returned r ∧ Wd X M t.heap ∧ va_F (fun q => xB X ≤ q) st t
def Sem (X : xC) (k : Mth) (d pc : Nat) (ls : List (Option Value)) (st : List Value) (M : List va_E) (r : Option Value) (M' : List va_E) (kc ks : Nat) : Prop :=
  ∀ (p : Program) (l : Launch) (e : Env) (R : Room) (s : State) (m : MethodId) (args : Array Value) (below : List Frame) (meth : Method) (c : Code), CtxOK X k d p R s m args meth c →
  ∀ (H : Heap) (locs : List Loc) (cells slots : Nat), Wd X M H → va_S (fun q => xB X ≤ q) s.heap H locs → cells + kc ≤ R.cells → slots + ks ≤ R.slots →
  ∀ la : Array Slot, LV k.2.2.1 ls la →
    W p l e R s m args below meth c H locs cells slots (MQ below (Qs X r M') args s (cells + kc) (slots + ks) (fun q => xB X ≤ q)) (F0 m pc la st)
abbrev dI (b : ByteArray) (pc : Nat) (i : Instr) (n pc' : Nat) : Prop := decode b pc = .ok (i, n) ∧ pc + n = pc'
abbrev dJ (b : ByteArray) (pc : Nat) (i : Instr) (off : Int) (pc' tgt : Nat) : Prop := decode b pc = .ok (i, 3) ∧ pc + 3 = pc' ∧ (pc : Int) + off = (tgt : Int)
def kl (ls : List (Option Value)) : List (Nat × Value) := ls.zipIdx.filterMap (fun q => q.1.map (fun v => (q.2, v)))
theorem kl_mem {ls : List (Option Value)} {i : Nat} {v : Value} : (i, v) ∈ kl ls ↔ ls[i]? = some (some v) := by
  constructor
  · intro h
    obtain ⟨⟨o, j⟩, h1, h2⟩ := List.mem_filterMap.mp h
    cases o with
    | none => simp at h2
    | some w =>
      simp only [Option.map_some, Option.some.injEq, Prod.mk.injEq] at h2
      obtain ⟨rfl, rfl⟩ := h2
      exact List.mem_zipIdx_iff_getElem?.mp h1
  · intro h
    exact List.mem_filterMap.mpr ⟨(some v, i), List.mem_zipIdx_iff_getElem?.mpr h, rfl⟩
theorem LV.has {n : Nat} {ls : List (Option Value)} {la : Array Slot} (h : LV n ls la) : lv_has la n (kl ls) := ⟨h.1.1, h.1.2.1, fun q hq => (h.2 q.1 q.2 (kl_mem.mp hq)).1⟩
theorem LV.set {n i : Nat} {ls : List (Option Value)} {la la' : Array Slot} {v : Value} (h : LV n ls la) (hv : v.category = 1) (h' : lv_has la' n ((i, v) :: (kl ls).filter (fun q => !(q.1 == i) && !(q.1 + 1 == i && q.2.category == 2)))) : LV n (ls.set i (some v)) la' := by
  refine ⟨⟨h'.1, h'.2.1, fun q hq => by cases hq⟩, fun j w hj => ?_⟩
  by_cases hji : j = i
  · subst hji
    have hl : j < ls.length := by
      have := (List.getElem?_eq_some_iff.mp hj).1
      simpa using this
    rw [List.getElem?_set_self hl] at hj
    cases hj
    exact ⟨h'.2.2 (j, v) List.mem_cons_self, hv⟩
  · rw [List.getElem?_set_ne (Ne.symm hji)] at hj
    have hc := (h.2 j w hj).2
    refine ⟨h'.2.2 (j, w) (List.mem_cons_of_mem _ (List.mem_filter.mpr ⟨kl_mem.mpr hj, ?_⟩)), hc⟩
    simp [hji, hc]
section RULES
variable {X : xC} {k : Mth} {d pc pc' tgt : Nat} {ls : List (Option Value)} {st : List Value} {M M' : List va_E} {r : Option Value} {kc ks : Nat}
theorem ev_iconst {n : Int} {v : Int32} (hd : dI k.2.1 pc (.iconst n) 1 pc' ∧ Int32.ofInt n = v) (kk : Sem X k d pc' ls (.int v :: st) M r M' kc ks) : Sem X k d pc ls st M r M' kc ks := by
  intro p l e R s m args below meth c C H locs cells slots hW hS hc hs la hl
  obtain ⟨hx, hb, hr, hml, hown, hts, hlk, hnm, hbs, hR, hE, hX⟩ := id C
  obtain ⟨⟨hd, rfl⟩, hv⟩ := hd
  exact lv_iconst hx hb hd hv (kk p l e R s m args below meth c C H locs cells slots hW hS hc hs la hl)
theorem ev_bipush {n : Int} {v : Int32} (hd : dI k.2.1 pc (.bipush n) 2 pc' ∧ (Int8.ofInt n).toInt32 = v) (kk : Sem X k d pc' ls (.int v :: st) M r M' kc ks) : Sem X k d pc ls st M r M' kc ks := by
  intro p l e R s m args below meth c C H locs cells slots hW hS hc hs la hl
  obtain ⟨hx, hb, hr, hml, hown, hts, hlk, hnm, hbs, hR, hE, hX⟩ := id C
  obtain ⟨⟨hd, rfl⟩, hv⟩ := hd
  exact lv_bipush hx hb hd hv (kk p l e R s m args below meth c C H locs cells slots hW hS hc hs la hl)
theorem ev_sipush {n : Int} {v : Int32} (hd : dI k.2.1 pc (.sipush n) 3 pc' ∧ (Int16.ofInt n).toInt32 = v) (kk : Sem X k d pc' ls (.int v :: st) M r M' kc ks) : Sem X k d pc ls st M r M' kc ks := by
  intro p l e R s m args below meth c C H locs cells slots hW hS hc hs la hl
  obtain ⟨hx, hb, hr, hml, hown, hts, hlk, hnm, hbs, hR, hE, hX⟩ := id C
  obtain ⟨⟨hd, rfl⟩, hv⟩ := hd
  exact lv_sipush hx hb hd hv (kk p l e R s m args below meth c C H locs cells slots hW hS hc hs la hl)
theorem ev_ldc {idx : Nat} {v : Int32} (hd : dI k.2.1 pc (.ldc idx) 2 pc') (hw : Cond.constant k.1.cls idx v ∈ TG) (kk : Sem X k d pc' ls (.int v :: st) M r M' kc ks) : Sem X k d pc ls st M r M' kc ks := by
  intro p l e R s m args below meth c C H locs cells slots hW hS hc hs la hl
  obtain ⟨hx, hb, hr, hml, hown, hts, hlk, hnm, hbs, hR, hE, hX⟩ := id C
  obtain ⟨hd, rfl⟩ := hd
  exact lv_ldc hx hb hown (hts _ hw) hd (kk p l e R s m args below meth c C H locs cells slots hW hS hc hs la hl)
theorem ev_iload_n {j : Fin 4} {x : Int32} (hd : dI k.2.1 pc (.iload_n j) 1 pc') (h : ls[(j : Nat)]? = some (some (.int x))) (kk : Sem X k d pc' ls (.int x :: st) M r M' kc ks) : Sem X k d pc ls st M r M' kc ks := by
  intro p l e R s m args below meth c C H locs cells slots hW hS hc hs la hl
  obtain ⟨hx, hb, hr, hml, hown, hts, hlk, hnm, hbs, hR, hE, hX⟩ := id C
  obtain ⟨hd, rfl⟩ := hd
  exact lv_iload_n hx hb hd rfl (hl.2 _ _ h).1 (kk p l e R s m args below meth c C H locs cells slots hW hS hc hs la hl)
theorem ev_iload {j : Nat} {x : Int32} (hd : dI k.2.1 pc (.iload j) 2 pc') (h : ls[j]? = some (some (.int x))) (kk : Sem X k d pc' ls (.int x :: st) M r M' kc ks) : Sem X k d pc ls st M r M' kc ks := by
  intro p l e R s m args below meth c C H locs cells slots hW hS hc hs la hl
  obtain ⟨hx, hb, hr, hml, hown, hts, hlk, hnm, hbs, hR, hE, hX⟩ := id C
  obtain ⟨hd, rfl⟩ := hd
  exact lv_iload hx hb hd (hl.2 _ _ h).1 (kk p l e R s m args below meth c C H locs cells slots hW hS hc hs la hl)
theorem ev_aload_n {j : Fin 4} {x : Nat} (hd : dI k.2.1 pc (.aload_n j) 1 pc') (h : ls[(j : Nat)]? = some (some (.ref x))) (kk : Sem X k d pc' ls (.ref x :: st) M r M' kc ks) : Sem X k d pc ls st M r M' kc ks := by
  intro p l e R s m args below meth c C H locs cells slots hW hS hc hs la hl
  obtain ⟨hx, hb, hr, hml, hown, hts, hlk, hnm, hbs, hR, hE, hX⟩ := id C
  obtain ⟨hd, rfl⟩ := hd
  exact lv_aload_n hx hb hd rfl (hl.2 _ _ h).1 (kk p l e R s m args below meth c C H locs cells slots hW hS hc hs la hl)
theorem ev_aload {j : Nat} {x : Nat} (hd : dI k.2.1 pc (.aload j) 2 pc') (h : ls[j]? = some (some (.ref x))) (kk : Sem X k d pc' ls (.ref x :: st) M r M' kc ks) : Sem X k d pc ls st M r M' kc ks := by
  intro p l e R s m args below meth c C H locs cells slots hW hS hc hs la hl
  obtain ⟨hx, hb, hr, hml, hown, hts, hlk, hnm, hbs, hR, hE, hX⟩ := id C
  obtain ⟨hd, rfl⟩ := hd
  exact lv_aload hx hb hd (hl.2 _ _ h).1 (kk p l e R s m args below meth c C H locs cells slots hW hS hc hs la hl)
theorem ev_istore_n {j : Fin 4} {x : Int32} (hd : dI k.2.1 pc (.istore_n j) 1 pc') (hj : (j : Nat) < k.2.2.1) (kk : Sem X k d pc' (ls.set (j : Nat) (some (.int x))) st M r M' kc ks) : Sem X k d pc ls (.int x :: st) M r M' kc ks := by
  intro p l e R s m args below meth c C H locs cells slots hW hS hc hs la hl
  obtain ⟨hx, hb, hr, hml, hown, hts, hlk, hnm, hbs, hR, hE, hX⟩ := id C
  obtain ⟨hd, rfl⟩ := hd
  exact lv_istore_n hx hb hd rfl hl.has hj rfl (fun la' h' => kk p l e R s m args below meth c C H locs cells slots hW hS hc hs la' (hl.set rfl h'))
theorem ev_istore {j : Nat} {x : Int32} (hd : dI k.2.1 pc (.istore j) 2 pc') (hj : j < k.2.2.1) (kk : Sem X k d pc' (ls.set j (some (.int x))) st M r M' kc ks) : Sem X k d pc ls (.int x :: st) M r M' kc ks := by
  intro p l e R s m args below meth c C H locs cells slots hW hS hc hs la hl
  obtain ⟨hx, hb, hr, hml, hown, hts, hlk, hnm, hbs, hR, hE, hX⟩ := id C
  obtain ⟨hd, rfl⟩ := hd
  exact lv_istore hx hb hd hl.has hj rfl (fun la' h' => kk p l e R s m args below meth c C H locs cells slots hW hS hc hs la' (hl.set rfl h'))
theorem ev_astore_n {j : Fin 4} {x : Nat} (hd : dI k.2.1 pc (.astore_n j) 1 pc') (hj : (j : Nat) < k.2.2.1) (kk : Sem X k d pc' (ls.set (j : Nat) (some (.ref x))) st M r M' kc ks) : Sem X k d pc ls (.ref x :: st) M r M' kc ks := by
  intro p l e R s m args below meth c C H locs cells slots hW hS hc hs la hl
  obtain ⟨hx, hb, hr, hml, hown, hts, hlk, hnm, hbs, hR, hE, hX⟩ := id C
  obtain ⟨hd, rfl⟩ := hd
  exact lv_astore_n hx hb hd rfl hl.has hj rfl (fun la' h' => kk p l e R s m args below meth c C H locs cells slots hW hS hc hs la' (hl.set rfl h'))
theorem ev_astore {j : Nat} {x : Nat} (hd : dI k.2.1 pc (.astore j) 2 pc') (hj : j < k.2.2.1) (kk : Sem X k d pc' (ls.set j (some (.ref x))) st M r M' kc ks) : Sem X k d pc ls (.ref x :: st) M r M' kc ks := by
  intro p l e R s m args below meth c C H locs cells slots hW hS hc hs la hl
  obtain ⟨hx, hb, hr, hml, hown, hts, hlk, hnm, hbs, hR, hE, hX⟩ := id C
  obtain ⟨hd, rfl⟩ := hd
  exact lv_astore hx hb hd hl.has hj rfl (fun la' h' => kk p l e R s m args below meth c C H locs cells slots hW hS hc hs la' (hl.set rfl h'))
theorem ev_iinc {j : Nat} {n : Int} {x v : Int32} (hd : dI k.2.1 pc (.iinc j n) 3 pc' ∧ Int32.ofInt n = v) (hj : j < k.2.2.1) (h : ls[j]? = some (some (.int x))) (kk : Sem X k d pc' (ls.set j (some (.int (x + v)))) st M r M' kc ks) : Sem X k d pc ls st M r M' kc ks := by
  intro p l e R s m args below meth c C H locs cells slots hW hS hc hs la hl
  obtain ⟨hx, hb, hr, hml, hown, hts, hlk, hnm, hbs, hR, hE, hX⟩ := id C
  obtain ⟨⟨hd, rfl⟩, hv⟩ := hd
  obtain ⟨q, hq⟩ := List.getElem?_of_mem (kl_mem.mpr h)
  exact lv_iinc hx hb hd hl.has hq (by rw [hv]) hj rfl (fun la' h' => kk p l e R s m args below meth c C H locs cells slots hW hS hc hs la' (hl.set rfl h'))
theorem ev_iadd {x y : Int32} (hd : dI k.2.1 pc .iadd 1 pc') (kk : Sem X k d pc' ls (.int (x + y) :: st) M r M' kc ks) : Sem X k d pc ls (.int y :: .int x :: st) M r M' kc ks := by
  intro p l e R s m args below meth c C H locs cells slots hW hS hc hs la hl
  obtain ⟨hx, hb, hr, hml, hown, hts, hlk, hnm, hbs, hR, hE, hX⟩ := id C
  obtain ⟨hd, rfl⟩ := hd
  exact lv_iadd hx hb hd (kk p l e R s m args below meth c C H locs cells slots hW hS hc hs la hl)
theorem ev_isub {x y : Int32} (hd : dI k.2.1 pc .isub 1 pc') (kk : Sem X k d pc' ls (.int (x - y) :: st) M r M' kc ks) : Sem X k d pc ls (.int y :: .int x :: st) M r M' kc ks := by
  intro p l e R s m args below meth c C H locs cells slots hW hS hc hs la hl
  obtain ⟨hx, hb, hr, hml, hown, hts, hlk, hnm, hbs, hR, hE, hX⟩ := id C
  obtain ⟨hd, rfl⟩ := hd
  exact lv_isub hx hb hd (kk p l e R s m args below meth c C H locs cells slots hW hS hc hs la hl)
theorem ev_imul {x y : Int32} (hd : dI k.2.1 pc .imul 1 pc') (kk : Sem X k d pc' ls (.int (x * y) :: st) M r M' kc ks) : Sem X k d pc ls (.int y :: .int x :: st) M r M' kc ks := by
  intro p l e R s m args below meth c C H locs cells slots hW hS hc hs la hl
  obtain ⟨hx, hb, hr, hml, hown, hts, hlk, hnm, hbs, hR, hE, hX⟩ := id C
  obtain ⟨hd, rfl⟩ := hd
  exact lv_imul hx hb hd (kk p l e R s m args below meth c C H locs cells slots hW hS hc hs la hl)
theorem ev_iand {x y : Int32} (hd : dI k.2.1 pc .iand 1 pc') (kk : Sem X k d pc' ls (.int (x &&& y) :: st) M r M' kc ks) : Sem X k d pc ls (.int y :: .int x :: st) M r M' kc ks := by
  intro p l e R s m args below meth c C H locs cells slots hW hS hc hs la hl
  obtain ⟨hx, hb, hr, hml, hown, hts, hlk, hnm, hbs, hR, hE, hX⟩ := id C
  obtain ⟨hd, rfl⟩ := hd
  exact lv_iand hx hb hd (kk p l e R s m args below meth c C H locs cells slots hW hS hc hs la hl)
theorem ev_ishl {x y : Int32} (hd : dI k.2.1 pc .ishl 1 pc') (kk : Sem X k d pc' ls (.int (x <<< (y &&& 31)) :: st) M r M' kc ks) : Sem X k d pc ls (.int y :: .int x :: st) M r M' kc ks := by
  intro p l e R s m args below meth c C H locs cells slots hW hS hc hs la hl
  obtain ⟨hx, hb, hr, hml, hown, hts, hlk, hnm, hbs, hR, hE, hX⟩ := id C
  obtain ⟨hd, rfl⟩ := hd
  exact lv_ishl hx hb hd (kk p l e R s m args below meth c C H locs cells slots hW hS hc hs la hl)
theorem ev_ishr {x y : Int32} (hd : dI k.2.1 pc .ishr 1 pc') (kk : Sem X k d pc' ls (.int (x >>> (y &&& 31)) :: st) M r M' kc ks) : Sem X k d pc ls (.int y :: .int x :: st) M r M' kc ks := by
  intro p l e R s m args below meth c C H locs cells slots hW hS hc hs la hl
  obtain ⟨hx, hb, hr, hml, hown, hts, hlk, hnm, hbs, hR, hE, hX⟩ := id C
  obtain ⟨hd, rfl⟩ := hd
  exact lv_ishr hx hb hd (kk p l e R s m args below meth c C H locs cells slots hW hS hc hs la hl)
theorem ev_idiv {x y : Int32} (hd : dI k.2.1 pc .idiv 1 pc') (hy : ¬ y = 0) (kk : Sem X k d pc' ls (.int (x / y) :: st) M r M' kc ks) : Sem X k d pc ls (.int y :: .int x :: st) M r M' kc ks := by
  intro p l e R s m args below meth c C H locs cells slots hW hS hc hs la hl
  obtain ⟨hx, hb, hr, hml, hown, hts, hlk, hnm, hbs, hR, hE, hX⟩ := id C
  obtain ⟨hd, rfl⟩ := hd
  exact lv_idiv hx hb hd hy (kk p l e R s m args below meth c C H locs cells slots hW hS hc hs la hl)
theorem ev_irem {x y : Int32} (hd : dI k.2.1 pc .irem 1 pc') (hy : ¬ y = 0) (kk : Sem X k d pc' ls (.int (x - x / y * y) :: st) M r M' kc ks) : Sem X k d pc ls (.int y :: .int x :: st) M r M' kc ks := by
  intro p l e R s m args below meth c C H locs cells slots hW hS hc hs la hl
  obtain ⟨hx, hb, hr, hml, hown, hts, hlk, hnm, hbs, hR, hE, hX⟩ := id C
  obtain ⟨hd, rfl⟩ := hd
  exact lv_irem hx hb hd hy (kk p l e R s m args below meth c C H locs cells slots hW hS hc hs la hl)
theorem ev_iushr {x y : Int32} (hd : dI k.2.1 pc .iushr 1 pc') (kk : Sem X k d pc' ls (.int ((x.toUInt32 >>> (y.toUInt32 &&& Int32.toUInt32 31)).toInt32) :: st) M r M' kc ks) : Sem X k d pc ls (.int y :: .int x :: st) M r M' kc ks := by
  intro p l e R s m args below meth c C H locs cells slots hW hS hc hs la hl
  obtain ⟨hx, hb, hr, hml, hown, hts, hlk, hnm, hbs, hR, hE, hX⟩ := id C
  obtain ⟨hd, rfl⟩ := hd
  exact lv_iushr hx hb hd rfl (kk p l e R s m args below meth c C H locs cells slots hW hS hc hs la hl)
theorem ev_i2b {x : Int32} (hd : dI k.2.1 pc .i2b 1 pc') (kk : Sem X k d pc' ls (.int (x.toInt8.toInt32) :: st) M r M' kc ks) : Sem X k d pc ls (.int x :: st) M r M' kc ks := by
  intro p l e R s m args below meth c C H locs cells slots hW hS hc hs la hl
  obtain ⟨hx, hb, hr, hml, hown, hts, hlk, hnm, hbs, hR, hE, hX⟩ := id C
  obtain ⟨hd, rfl⟩ := hd
  exact lv_i2b hx hb hd rfl (kk p l e R s m args below meth c C H locs cells slots hW hS hc hs la hl)
theorem ev_i2s {x : Int32} (hd : dI k.2.1 pc .i2s 1 pc') (kk : Sem X k d pc' ls (.int (x.toInt16.toInt32) :: st) M r M' kc ks) : Sem X k d pc ls (.int x :: st) M r M' kc ks := by
  intro p l e R s m args below meth c C H locs cells slots hW hS hc hs la hl
  obtain ⟨hx, hb, hr, hml, hown, hts, hlk, hnm, hbs, hR, hE, hX⟩ := id C
  obtain ⟨hd, rfl⟩ := hd
  exact lv_i2s hx hb hd rfl (kk p l e R s m args below meth c C H locs cells slots hW hS hc hs la hl)
theorem ev_i2c {x : Int32} (hd : dI k.2.1 pc .i2c 1 pc') (kk : Sem X k d pc' ls (.int ((x.toUInt32 % 65536).toInt32) :: st) M r M' kc ks) : Sem X k d pc ls (.int x :: st) M r M' kc ks := by
  intro p l e R s m args below meth c C H locs cells slots hW hS hc hs la hl
  obtain ⟨hx, hb, hr, hml, hown, hts, hlk, hnm, hbs, hR, hE, hX⟩ := id C
  obtain ⟨hd, rfl⟩ := hd
  exact lv_i2c hx hb hd rfl (kk p l e R s m args below meth c C H locs cells slots hW hS hc hs la hl)
theorem ev_dup {a : Value} (hd : dI k.2.1 pc .dup 1 pc') (h1 : a.category = 1) (kk : Sem X k d pc' ls (a :: a :: st) M r M' kc ks) : Sem X k d pc ls (a :: st) M r M' kc ks := by
  intro p l e R s m args below meth c C H locs cells slots hW hS hc hs la hl
  obtain ⟨hx, hb, hr, hml, hown, hts, hlk, hnm, hbs, hR, hE, hX⟩ := id C
  obtain ⟨hd, rfl⟩ := hd
  exact lv_dup hx hb hd h1 (kk p l e R s m args below meth c C H locs cells slots hW hS hc hs la hl)
theorem ev_dup_x1 {a b : Value} (hd : dI k.2.1 pc .dup_x1 1 pc') (h1 : a.category = 1) (h2 : b.category = 1) (kk : Sem X k d pc' ls (a :: b :: a :: st) M r M' kc ks) : Sem X k d pc ls (a :: b :: st) M r M' kc ks := by
  intro p l e R s m args below meth c C H locs cells slots hW hS hc hs la hl
  obtain ⟨hx, hb, hr, hml, hown, hts, hlk, hnm, hbs, hR, hE, hX⟩ := id C
  obtain ⟨hd, rfl⟩ := hd
  exact lv_dup_x1 hx hb hd h1 h2 (kk p l e R s m args below meth c C H locs cells slots hW hS hc hs la hl)
theorem ev_dup2 {a b : Value} (hd : dI k.2.1 pc .dup2 1 pc') (h1 : a.category = 1) (h2 : b.category = 1) (kk : Sem X k d pc' ls (a :: b :: a :: b :: st) M r M' kc ks) : Sem X k d pc ls (a :: b :: st) M r M' kc ks := by
  intro p l e R s m args below meth c C H locs cells slots hW hS hc hs la hl
  obtain ⟨hx, hb, hr, hml, hown, hts, hlk, hnm, hbs, hR, hE, hX⟩ := id C
  obtain ⟨hd, rfl⟩ := hd
  exact lv_dup2_11 hx hb hd h1 h2 (kk p l e R s m args below meth c C H locs cells slots hW hS hc hs la hl)
theorem ev_pop {a : Value} (hd : dI k.2.1 pc .pop 1 pc') (h1 : a.category = 1) (kk : Sem X k d pc' ls (st) M r M' kc ks) : Sem X k d pc ls (a :: st) M r M' kc ks := by
  intro p l e R s m args below meth c C H locs cells slots hW hS hc hs la hl
  obtain ⟨hx, hb, hr, hml, hown, hts, hlk, hnm, hbs, hR, hE, hX⟩ := id C
  obtain ⟨hd, rfl⟩ := hd
  exact lv_pop hx hb hd h1 (kk p l e R s m args below meth c C H locs cells slots hW hS hc hs la hl)
theorem ev_icmp_eq {x y : Int32} {off : Int} (hd : dJ k.2.1 pc (.if_icmp .eq off) off pc' tgt) (kt : x = y → Sem X k d tgt ls st M r M' kc ks) (kf : ¬ x = y → Sem X k d pc' ls st M r M' kc ks) : Sem X k d pc ls (.int y :: .int x :: st) M r M' kc ks := by
  intro p l e R s m args below meth c C H locs cells slots hW hS hc hs la hl
  obtain ⟨hx, hb, hr, hml, hown, hts, hlk, hnm, hbs, hR, hE, hX⟩ := id C
  obtain ⟨hd, rfl, ht⟩ := hd
  exact lv_icmp_eq hx hb hd ht (fun h => kt h p l e R s m args below meth c C H locs cells slots hW hS hc hs la hl) (fun h => kf h p l e R s m args below meth c C H locs cells slots hW hS hc hs la hl)
theorem ev_if_eq {x : Int32} {off : Int} (hd : dJ k.2.1 pc (.ifCond .eq off) off pc' tgt) (kt : x = 0 → Sem X k d tgt ls st M r M' kc ks) (kf : ¬ x = 0 → Sem X k d pc' ls st M r M' kc ks) : Sem X k d pc ls (.int x :: st) M r M' kc ks := by
  intro p l e R s m args below meth c C H locs cells slots hW hS hc hs la hl
  obtain ⟨hx, hb, hr, hml, hown, hts, hlk, hnm, hbs, hR, hE, hX⟩ := id C
  obtain ⟨hd, rfl, ht⟩ := hd
  exact lv_if_eq hx hb hd ht (fun h => kt h p l e R s m args below meth c C H locs cells slots hW hS hc hs la hl) (fun h => kf h p l e R s m args below meth c C H locs cells slots hW hS hc hs la hl)
theorem ev_icmp_ne {x y : Int32} {off : Int} (hd : dJ k.2.1 pc (.if_icmp .ne off) off pc' tgt) (kt : ¬ x = y → Sem X k d tgt ls st M r M' kc ks) (kf : x = y → Sem X k d pc' ls st M r M' kc ks) : Sem X k d pc ls (.int y :: .int x :: st) M r M' kc ks := by
  intro p l e R s m args below meth c C H locs cells slots hW hS hc hs la hl
  obtain ⟨hx, hb, hr, hml, hown, hts, hlk, hnm, hbs, hR, hE, hX⟩ := id C
  obtain ⟨hd, rfl, ht⟩ := hd
  exact lv_icmp_ne hx hb hd ht (fun h => kt h p l e R s m args below meth c C H locs cells slots hW hS hc hs la hl) (fun h => kf h p l e R s m args below meth c C H locs cells slots hW hS hc hs la hl)
theorem ev_if_ne {x : Int32} {off : Int} (hd : dJ k.2.1 pc (.ifCond .ne off) off pc' tgt) (kt : ¬ x = 0 → Sem X k d tgt ls st M r M' kc ks) (kf : x = 0 → Sem X k d pc' ls st M r M' kc ks) : Sem X k d pc ls (.int x :: st) M r M' kc ks := by
  intro p l e R s m args below meth c C H locs cells slots hW hS hc hs la hl
  obtain ⟨hx, hb, hr, hml, hown, hts, hlk, hnm, hbs, hR, hE, hX⟩ := id C
  obtain ⟨hd, rfl, ht⟩ := hd
  exact lv_if_ne hx hb hd ht (fun h => kt h p l e R s m args below meth c C H locs cells slots hW hS hc hs la hl) (fun h => kf h p l e R s m args below meth c C H locs cells slots hW hS hc hs la hl)
theorem ev_icmp_lt {x y : Int32} {off : Int} (hd : dJ k.2.1 pc (.if_icmp .lt off) off pc' tgt) (kt : x < y → Sem X k d tgt ls st M r M' kc ks) (kf : ¬ x < y → Sem X k d pc' ls st M r M' kc ks) : Sem X k d pc ls (.int y :: .int x :: st) M r M' kc ks := by
  intro p l e R s m args below meth c C H locs cells slots hW hS hc hs la hl
  obtain ⟨hx, hb, hr, hml, hown, hts, hlk, hnm, hbs, hR, hE, hX⟩ := id C
  obtain ⟨hd, rfl, ht⟩ := hd
  exact lv_icmp_lt hx hb hd ht (fun h => kt h p l e R s m args below meth c C H locs cells slots hW hS hc hs la hl) (fun h => kf h p l e R s m args below meth c C H locs cells slots hW hS hc hs la hl)
theorem ev_if_lt {x : Int32} {off : Int} (hd : dJ k.2.1 pc (.ifCond .lt off) off pc' tgt) (kt : x < 0 → Sem X k d tgt ls st M r M' kc ks) (kf : ¬ x < 0 → Sem X k d pc' ls st M r M' kc ks) : Sem X k d pc ls (.int x :: st) M r M' kc ks := by
  intro p l e R s m args below meth c C H locs cells slots hW hS hc hs la hl
  obtain ⟨hx, hb, hr, hml, hown, hts, hlk, hnm, hbs, hR, hE, hX⟩ := id C
  obtain ⟨hd, rfl, ht⟩ := hd
  exact lv_if_lt hx hb hd ht (fun h => kt h p l e R s m args below meth c C H locs cells slots hW hS hc hs la hl) (fun h => kf h p l e R s m args below meth c C H locs cells slots hW hS hc hs la hl)
theorem ev_icmp_ge {x y : Int32} {off : Int} (hd : dJ k.2.1 pc (.if_icmp .ge off) off pc' tgt) (kt : y ≤ x → Sem X k d tgt ls st M r M' kc ks) (kf : ¬ y ≤ x → Sem X k d pc' ls st M r M' kc ks) : Sem X k d pc ls (.int y :: .int x :: st) M r M' kc ks := by
  intro p l e R s m args below meth c C H locs cells slots hW hS hc hs la hl
  obtain ⟨hx, hb, hr, hml, hown, hts, hlk, hnm, hbs, hR, hE, hX⟩ := id C
  obtain ⟨hd, rfl, ht⟩ := hd
  exact lv_icmp_ge hx hb hd ht (fun h => kt h p l e R s m args below meth c C H locs cells slots hW hS hc hs la hl) (fun h => kf h p l e R s m args below meth c C H locs cells slots hW hS hc hs la hl)
theorem ev_if_ge {x : Int32} {off : Int} (hd : dJ k.2.1 pc (.ifCond .ge off) off pc' tgt) (kt : 0 ≤ x → Sem X k d tgt ls st M r M' kc ks) (kf : ¬ 0 ≤ x → Sem X k d pc' ls st M r M' kc ks) : Sem X k d pc ls (.int x :: st) M r M' kc ks := by
  intro p l e R s m args below meth c C H locs cells slots hW hS hc hs la hl
  obtain ⟨hx, hb, hr, hml, hown, hts, hlk, hnm, hbs, hR, hE, hX⟩ := id C
  obtain ⟨hd, rfl, ht⟩ := hd
  exact lv_if_ge hx hb hd ht (fun h => kt h p l e R s m args below meth c C H locs cells slots hW hS hc hs la hl) (fun h => kf h p l e R s m args below meth c C H locs cells slots hW hS hc hs la hl)
theorem ev_icmp_gt {x y : Int32} {off : Int} (hd : dJ k.2.1 pc (.if_icmp .gt off) off pc' tgt) (kt : y < x → Sem X k d tgt ls st M r M' kc ks) (kf : ¬ y < x → Sem X k d pc' ls st M r M' kc ks) : Sem X k d pc ls (.int y :: .int x :: st) M r M' kc ks := by
  intro p l e R s m args below meth c C H locs cells slots hW hS hc hs la hl
  obtain ⟨hx, hb, hr, hml, hown, hts, hlk, hnm, hbs, hR, hE, hX⟩ := id C
  obtain ⟨hd, rfl, ht⟩ := hd
  exact lv_icmp_gt hx hb hd ht (fun h => kt h p l e R s m args below meth c C H locs cells slots hW hS hc hs la hl) (fun h => kf h p l e R s m args below meth c C H locs cells slots hW hS hc hs la hl)
theorem ev_if_gt {x : Int32} {off : Int} (hd : dJ k.2.1 pc (.ifCond .gt off) off pc' tgt) (kt : 0 < x → Sem X k d tgt ls st M r M' kc ks) (kf : ¬ 0 < x → Sem X k d pc' ls st M r M' kc ks) : Sem X k d pc ls (.int x :: st) M r M' kc ks := by
  intro p l e R s m args below meth c C H locs cells slots hW hS hc hs la hl
  obtain ⟨hx, hb, hr, hml, hown, hts, hlk, hnm, hbs, hR, hE, hX⟩ := id C
  obtain ⟨hd, rfl, ht⟩ := hd
  exact lv_if_gt hx hb hd ht (fun h => kt h p l e R s m args below meth c C H locs cells slots hW hS hc hs la hl) (fun h => kf h p l e R s m args below meth c C H locs cells slots hW hS hc hs la hl)
theorem ev_icmp_le {x y : Int32} {off : Int} (hd : dJ k.2.1 pc (.if_icmp .le off) off pc' tgt) (kt : x ≤ y → Sem X k d tgt ls st M r M' kc ks) (kf : ¬ x ≤ y → Sem X k d pc' ls st M r M' kc ks) : Sem X k d pc ls (.int y :: .int x :: st) M r M' kc ks := by
  intro p l e R s m args below meth c C H locs cells slots hW hS hc hs la hl
  obtain ⟨hx, hb, hr, hml, hown, hts, hlk, hnm, hbs, hR, hE, hX⟩ := id C
  obtain ⟨hd, rfl, ht⟩ := hd
  exact lv_icmp_le hx hb hd ht (fun h => kt h p l e R s m args below meth c C H locs cells slots hW hS hc hs la hl) (fun h => kf h p l e R s m args below meth c C H locs cells slots hW hS hc hs la hl)
theorem ev_if_le {x : Int32} {off : Int} (hd : dJ k.2.1 pc (.ifCond .le off) off pc' tgt) (kt : x ≤ 0 → Sem X k d tgt ls st M r M' kc ks) (kf : ¬ x ≤ 0 → Sem X k d pc' ls st M r M' kc ks) : Sem X k d pc ls (.int x :: st) M r M' kc ks := by
  intro p l e R s m args below meth c C H locs cells slots hW hS hc hs la hl
  obtain ⟨hx, hb, hr, hml, hown, hts, hlk, hnm, hbs, hR, hE, hX⟩ := id C
  obtain ⟨hd, rfl, ht⟩ := hd
  exact lv_if_le hx hb hd ht (fun h => kt h p l e R s m args below meth c C H locs cells slots hW hS hc hs la hl) (fun h => kf h p l e R s m args below meth c C H locs cells slots hW hS hc hs la hl)
theorem ev_goto {off : Int} (hd : dJ k.2.1 pc (.goto off) off pc' tgt) (kk : Sem X k d tgt ls st M r M' kc ks) : Sem X k d pc ls st M r M' kc ks := by
  intro p l e R s m args below meth c C H locs cells slots hW hS hc hs la hl
  obtain ⟨hx, hb, hr, hml, hown, hts, hlk, hnm, hbs, hR, hE, hX⟩ := id C
  obtain ⟨hd, rfl, ht⟩ := hd
  exact lv_goto hx hb hd ht (kk p l e R s m args below meth c C H locs cells slots hW hS hc hs la hl)
theorem ev_table_in {dflt lo hi : Int} {offs : Array Int} {len : Nat} {x : Int32} {off : Int} (hd : decode k.2.1 pc = .ok (.tableswitch dflt lo hi offs, len)) (h1 : ¬ x.toInt < lo) (h2 : ¬ hi < x.toInt) (ho : offs[(x.toInt - lo).toNat]? = some off) (ht : (pc : Int) + off = (tgt : Int)) (kk : Sem X k d tgt ls st M r M' kc ks) : Sem X k d pc ls (.int x :: st) M r M' kc ks := by
  intro p l e R s m args below meth c C H locs cells slots hW hS hc hs la hl
  obtain ⟨hx, hb, hr, hml, hown, hts, hlk, hnm, hbs, hR, hE, hX⟩ := id C
  exact lv_tableIn hx hb hd h1 h2 ho ht (kk p l e R s m args below meth c C H locs cells slots hW hS hc hs la hl)
theorem ev_table_out {dflt lo hi : Int} {offs : Array Int} {len : Nat} {x : Int32} (hd : decode k.2.1 pc = .ok (.tableswitch dflt lo hi offs, len)) (h : x.toInt < lo ∨ hi < x.toInt) (ht : (pc : Int) + dflt = (tgt : Int)) (kk : Sem X k d tgt ls st M r M' kc ks) : Sem X k d pc ls (.int x :: st) M r M' kc ks := by
  intro p l e R s m args below meth c C H locs cells slots hW hS hc hs la hl
  obtain ⟨hx, hb, hr, hml, hown, hts, hlk, hnm, hbs, hR, hE, hX⟩ := id C
  exact lv_tableOut hx hb hd h ht (kk p l e R s m args below meth c C H locs cells slots hW hS hc hs la hl)
theorem ev_lookup {dflt : Int} {ps : Array (Int × Int)} {len : Nat} {x : Int32} {off : Int} (hd : decode k.2.1 pc = .ok (.lookupswitch dflt ps, len)) (hp : (ps.toList.zip (ps.toList.drop 1)).all (fun (a, next) => a.1 < next.1) = true) (ho : Op.lookupswitch.offset ps.toList dflt x.toInt = off) (ht : (pc : Int) + off = (tgt : Int)) (kk : Sem X k d tgt ls st M r M' kc ks) : Sem X k d pc ls (.int x :: st) M r M' kc ks := by
  intro p l e R s m args below meth c C H locs cells slots hW hS hc hs la hl
  obtain ⟨hx, hb, hr, hml, hown, hts, hlk, hnm, hbs, hR, hE, hX⟩ := id C
  exact lv_lookup hx hb hd hp ho ht (kk p l e R s m args below meth c C H locs cells slots hW hS hc hs la hl)
theorem ev_ireturn {v : Int32} {ty : FieldType} (hd : decode k.2.1 pc = .ok (.ireturn, 1)) (ht : k.2.2.2 = some ty) (hn : narrow ty (.int v) = .int v) : Sem X k d pc ls [.int v] M (some (.int v)) M 0 0 := by
  intro p l e R s m args below meth c C H locs cells slots hW hS hc hs la hl
  obtain ⟨hx, hb, hr, hml, hown, hts, hlk, hnm, hbs, hR, hE, hX⟩ := id C
  exact W.zret hx hb (hr.trans ht) hn (fun t ht hWt => ⟨rfl, by rw [ht]; exact hW, hS.F ht⟩) hS.2.2 hd hlk
theorem ev_areturn {a : Nat} {nm : String} (hd : decode k.2.1 pc = .ok (.areturn, 1)) (ht : k.2.2.2 = some (.object nm)) : Sem X k d pc ls [.ref a] M (some (.ref a)) M 0 0 := by
  intro p l e R s m args below meth c C H locs cells slots hW hS hc hs la hl
  obtain ⟨hx, hb, hr, hml, hown, hts, hlk, hnm, hbs, hR, hE, hX⟩ := id C
  exact W.aret hx hb (hr.trans ht) (Or.inl ⟨_, rfl⟩) (Or.inr ⟨_, rfl⟩) (fun t ht hWt => ⟨rfl, by rw [ht]; exact hW, hS.F ht⟩) hS.2.2 hd hlk
theorem ev_return (hd : decode k.2.1 pc = .ok (.return_, 1)) (ht : k.2.2.2 = none) : Sem X k d pc ls [] M none M 0 0 := by
  intro p l e R s m args below meth c C H locs cells slots hW hS hc hs la hl
  obtain ⟨hx, hb, hr, hml, hown, hts, hlk, hnm, hbs, hR, hE, hX⟩ := id C
  exact W.vret hx hb (hr.trans ht) (fun t ht hWt => ⟨rfl, by rw [ht]; exact hW, hS.F ht⟩) hS.2.2 hd hlk
theorem Sem.eq {r2 : Option Value} {M2 : List va_E} (h : Sem X k d pc ls st M r M' kc ks) (hr : r = r2) (hM : M' = M2) : Sem X k d pc ls st M r2 M2 kc ks := by
  subst hr; subst hM; exact h
end RULES
