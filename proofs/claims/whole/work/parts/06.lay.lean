/-! ===== the layout: the cells of the two systems behind their constructors; the store of all ints ===== -/
abbrev St : Type := Nat → Nat → Int32
abbrev LT : Type := Nat ⊕ (Nat × List Nat) ⊕ (Nat × List (Option Nat))
def lay : List LT := [.inr (.inr (5, [some 1, some 8, some 15, some 2, some 22, some 24, some 34, some 36, some 45, none])), .inr (.inr (1, [some 2, some 3, some 5, some 6, some 7, none, none])), .inr (.inr (0, [some 3, some 4])), .inl 40, .inl 10, .inl 10, .inl 10, .inl 20, .inr (.inr (1, [some 9, some 10, some 12, some 13, some 14, none, none])), .inr (.inr (0, [some 10, some 11])), .inl 40, .inl 10, .inl 10, .inl 10, .inl 20, .inr (.inr (1, [some 16, some 17, some 19, some 20, some 21, none, none])), .inr (.inr (0, [some 17, some 18])), .inl 40, .inl 10, .inl 10, .inl 10, .inl 20, .inr (.inr (0, [some 3, some 23])), .inl 10, .inr (.inr (2, [some 25, none, none, none, none])), .inr (.inl (0, [26, 28, 30, 32])), .inr (.inr (0, [some 3, some 27])), .inl 10, .inr (.inr (0, [some 3, some 29])), .inl 10, .inr (.inr (0, [some 3, some 31])), .inl 10, .inr (.inr (0, [some 3, some 33])), .inl 10, .inr (.inr (4, [some 35, none, none, none, none, none])), .inl 120, .inr (.inl (1, [37, 39, 41, 43])), .inr (.inr (3, [some 38, none, none])), .inl 40, .inr (.inr (3, [some 40, none, none])), .inl 40, .inr (.inr (3, [some 42, none, none])), .inl 40, .inr (.inr (3, [some 44, none, none])), .inl 40, .inl 7, .inr (.inr (6, [some 47, some 48, some 49, none, some 50, some 51, none, none, none, none, none, some 52, some 53, some 54, some 55, some 56])), .inl 92, .inl 92, .inl 92, .inl 7, .inl 120, .inl 3, .inl 4, .inl 4, .inl 160, .inl 40]
def fv (X : xC) (x : Int32) (o : Option Nat) : Value := match o with
  | some c' => .ref (xB X + c')
  | none => .int x
def cellOf (X : xC) (S : St) (c : Nat) (t : LT) : va_E := match t with
  | .inl n => .inl (xI X, n, .inl (S c))
  | .inr (.inl (q, cs)) => .inl (xR X q, cs.length, .inr (.inr (.inr (.inr (fun i => (cs[i]?).map (fun c' => xB X + c'))))))
  | .inr (.inr (ci, fs)) => .inr (ci, (List.range fs.length).map (fun j => fv X (S c j) (fs[j]?).join))
def mkL (X : xC) (S : St) : Nat → List LT → List va_E
  | _, [] => []
  | c, t :: ts => cellOf X S c t :: mkL X S (c + 1) ts
def mkM (X : xC) (S : St) : List va_E := mkL X S 0 lay
theorem mkL_get {X : xC} {S : St} : ∀ (ts : List LT) (c i : Nat), (mkL X S c ts)[i]? = (ts[i]?).map (cellOf X S (c + i))
  | [], c, i => by simp [mkL]
  | t :: ts, c, 0 => by simp [mkL]
  | t :: ts, c, i + 1 => by
    simp only [mkL, List.getElem?_cons_succ]
    rw [mkL_get ts (c + 1) i, show c + 1 + i = c + (i + 1) by omega]
theorem mkM_get {X : xC} {S : St} (i : Nat) : (mkM X S)[i]? = (lay[i]?).map (cellOf X S i) := by
  unfold mkM
  rw [mkL_get, Nat.zero_add]
theorem mkM_arr {X : xC} {S : St} {c n : Nat} (h : lay[c]? = some (.inl n)) : (mkM X S)[c]? = some (.inl (xI X, n, .inl (S c))) := by rw [mkM_get, h]; rfl
theorem mkM_obj {X : xC} {S : St} {c ci : Nat} {fs : List (Option Nat)} (h : lay[c]? = some (.inr (.inr (ci, fs)))) : (mkM X S)[c]? = some (.inr (ci, (List.range fs.length).map (fun j => fv X (S c j) (fs[j]?).join))) := by rw [mkM_get, h]; rfl
theorem mkM_rar {X : xC} {S : St} {c q : Nat} {cs : List Nat} (h : lay[c]? = some (.inr (.inl (q, cs)))) : (mkM X S)[c]? = some (.inl (xR X q, cs.length, .inr (.inr (.inr (.inr (fun i => (cs[i]?).map (fun c' => xB X + c'))))))) := by rw [mkM_get, h]; rfl
theorem cellOf_up {X : xC} {S : St} {c c2 : Nat} {f : Nat → Int32} {t : LT} (h : c2 ≠ c) : cellOf X (va_up S c f) c2 t = cellOf X S c2 t := by
  unfold cellOf
  simp only [va_up, if_neg h]
theorem mkM_set {X : xC} {S : St} {c : Nat} {f : Nat → Int32} {t : LT} (h : lay[c]? = some t) : (mkM X S).set c (cellOf X (va_up S c f) c t) = mkM X (va_up S c f) := by
  apply List.ext_getElem?
  intro i
  by_cases hi : i = c
  · subst hi
    have hl : i < (mkM X S).length := by
      have h1 : (mkM X S)[i]? = some (cellOf X S i t) := by rw [mkM_get, h]; rfl
      exact (List.getElem?_eq_some_iff.mp h1).1
    rw [List.getElem?_set_self hl, mkM_get, h]
    rfl
  · rw [List.getElem?_set_ne (Ne.symm hi), mkM_get, mkM_get]
    cases hc : lay[i]? with
    | none => rfl
    | some u => simp only [Option.map_some, cellOf_up hi]
/-- one place of the store -/
def put (S : St) (c j : Nat) (x : Int32) : St := va_up S c (upd (S c) j x)
theorem mkM_arr_set {X : xC} {S : St} {c n : Nat} {f : Nat → Int32} (h : lay[c]? = some (.inl n)) : (mkM X S).set c (.inl (xI X, n, .inl f)) = mkM X (va_up S c f) := by
  rw [← mkM_set h]
  simp [cellOf, va_up]
theorem mkM_fld_set {X : xC} {S : St} {c ci j : Nat} {x : Int32} {fs : List (Option Nat)} (h : lay[c]? = some (.inr (.inr (ci, fs)))) (hj : fs[j]? = some none) : (mkM X S).set c (.inr (ci, ((List.range fs.length).map (fun j => fv X (S c j) (fs[j]?).join)).set j (.int x))) = mkM X (put S c j x) := by
  unfold put
  rw [← mkM_set h]
  congr 1
  simp only [cellOf, Sum.inr.injEq, Prod.mk.injEq, true_and]
  apply List.ext_getElem?
  intro i
  have hjl : j < fs.length := (List.getElem?_eq_some_iff.mp hj).1
  by_cases hi : i = j
  · subst hi
    rw [List.getElem?_set_self (by simpa using hjl)]
    rw [List.getElem?_map, List.getElem?_range hjl]
    simp [hj, va_up, upd, fv]
  · rw [List.getElem?_set_ne (Ne.symm hi)]
    by_cases hl : i < fs.length
    · simp [hl, va_up, upd, hi]
    · simp [hl]
def inb (i : Int32) (n : Nat) : Bool := decide (¬ (i < 0 ∨ n ≤ i.toNatClampNeg))
theorem inb_in {i : Int32} {n : Nat} (h : inb i n = true) : vp_in i n := by
  unfold inb at h
  unfold vp_in
  exact of_decide_eq_true h
def eI (q : Int32 × St) : Option Value × St := (some (.int q.1), q.2)
def eV (S : St) : Option Value × St := (none, S)
def eR (q : Nat × St) : Option Value × St := (some (.ref q.1), q.2)
/-- the judgement over the store: where the pure function answers, the method does -/
def SemG {α : Type} (emb : α → Option Value × St) (X : xC) (k : Mth) (d pc : Nat) (ls : List (Option Value)) (st : List Value) (S : St) (f : Option α) : Prop := ∀ a, f = some a → Sem X k d pc ls st (mkM X S) (emb a).1 (mkM X (emb a).2) 0 0
section G
variable {α : Type} {emb : α → Option Value × St} {X : xC} {k : Mth} {d pc pc' tgt : Nat} {ls : List (Option Value)} {st : List Value} {S : St} {f f2 : Option α}
theorem g_none : SemG emb X k d pc ls st S none := fun a h => by cases h
theorem g_guard {b : Bool} (kk : b = true → SemG emb X k d pc ls st S f) : SemG emb X k d pc ls st S (if b = true then f else none) := by
  intro a h
  by_cases hb : b = true
  · rw [if_pos hb] at h; exact kk hb a h
  · rw [if_neg hb] at h; cases h
theorem g_ite {c : Prop} [Decidable c] (h1 : c → SemG emb X k d pc ls st S f) (h2 : ¬ c → SemG emb X k d pc ls st S f2) : SemG emb X k d pc ls st S (if c then f else f2) := by
  intro a h
  by_cases hc : c
  · rw [if_pos hc] at h; exact h1 hc a h
  · rw [if_neg hc] at h; exact h2 hc a h
theorem g_iconst {n : Int} {v : Int32} (hd : dI k.2.1 pc (.iconst n) 1 pc' ∧ Int32.ofInt n = v) (kk : SemG emb X k d pc' ls (.int v :: st) S f) : SemG emb X k d pc ls st S f := fun a ha => ev_iconst hd (kk a ha)
theorem g_bipush {n : Int} {v : Int32} (hd : dI k.2.1 pc (.bipush n) 2 pc' ∧ (Int8.ofInt n).toInt32 = v) (kk : SemG emb X k d pc' ls (.int v :: st) S f) : SemG emb X k d pc ls st S f := fun a ha => ev_bipush hd (kk a ha)
theorem g_sipush {n : Int} {v : Int32} (hd : dI k.2.1 pc (.sipush n) 3 pc' ∧ (Int16.ofInt n).toInt32 = v) (kk : SemG emb X k d pc' ls (.int v :: st) S f) : SemG emb X k d pc ls st S f := fun a ha => ev_sipush hd (kk a ha)
theorem g_ldc {idx : Nat} {v : Int32} (hd : dI k.2.1 pc (.ldc idx) 2 pc') (hw : Cond.constant k.1.cls idx v ∈ TG) (kk : SemG emb X k d pc' ls (.int v :: st) S f) : SemG emb X k d pc ls st S f := fun a ha => ev_ldc hd hw (kk a ha)
theorem g_iload_n {j : Fin 4} {x : Int32} (hd : dI k.2.1 pc (.iload_n j) 1 pc') (h : ls[(j : Nat)]? = some (some (.int x))) (kk : SemG emb X k d pc' ls (.int x :: st) S f) : SemG emb X k d pc ls st S f := fun a ha => ev_iload_n hd h (kk a ha)
theorem g_iload {j : Nat} {x : Int32} (hd : dI k.2.1 pc (.iload j) 2 pc') (h : ls[j]? = some (some (.int x))) (kk : SemG emb X k d pc' ls (.int x :: st) S f) : SemG emb X k d pc ls st S f := fun a ha => ev_iload hd h (kk a ha)
theorem g_aload_n {j : Fin 4} {x : Nat} (hd : dI k.2.1 pc (.aload_n j) 1 pc') (h : ls[(j : Nat)]? = some (some (.ref x))) (kk : SemG emb X k d pc' ls (.ref x :: st) S f) : SemG emb X k d pc ls st S f := fun a ha => ev_aload_n hd h (kk a ha)
theorem g_aload {j : Nat} {x : Nat} (hd : dI k.2.1 pc (.aload j) 2 pc') (h : ls[j]? = some (some (.ref x))) (kk : SemG emb X k d pc' ls (.ref x :: st) S f) : SemG emb X k d pc ls st S f := fun a ha => ev_aload hd h (kk a ha)
theorem g_istore_n {j : Fin 4} {x : Int32} (hd : dI k.2.1 pc (.istore_n j) 1 pc') (hj : (j : Nat) < k.2.2.1) (kk : SemG emb X k d pc' (ls.set (j : Nat) (some (.int x))) st S f) : SemG emb X k d pc ls (.int x :: st) S f := fun a ha => ev_istore_n hd hj (kk a ha)
theorem g_istore {j : Nat} {x : Int32} (hd : dI k.2.1 pc (.istore j) 2 pc') (hj : j < k.2.2.1) (kk : SemG emb X k d pc' (ls.set j (some (.int x))) st S f) : SemG emb X k d pc ls (.int x :: st) S f := fun a ha => ev_istore hd hj (kk a ha)
theorem g_astore_n {j : Fin 4} {x : Nat} (hd : dI k.2.1 pc (.astore_n j) 1 pc') (hj : (j : Nat) < k.2.2.1) (kk : SemG emb X k d pc' (ls.set (j : Nat) (some (.ref x))) st S f) : SemG emb X k d pc ls (.ref x :: st) S f := fun a ha => ev_astore_n hd hj (kk a ha)
theorem g_astore {j : Nat} {x : Nat} (hd : dI k.2.1 pc (.astore j) 2 pc') (hj : j < k.2.2.1) (kk : SemG emb X k d pc' (ls.set j (some (.ref x))) st S f) : SemG emb X k d pc ls (.ref x :: st) S f := fun a ha => ev_astore hd hj (kk a ha)
theorem g_iinc {j : Nat} {n : Int} {x v : Int32} (hd : dI k.2.1 pc (.iinc j n) 3 pc' ∧ Int32.ofInt n = v) (hj : j < k.2.2.1) (h : ls[j]? = some (some (.int x))) (kk : SemG emb X k d pc' (ls.set j (some (.int (x + v)))) st S f) : SemG emb X k d pc ls st S f := fun a ha => ev_iinc hd hj h (kk a ha)
theorem g_iadd {x y : Int32} (hd : dI k.2.1 pc .iadd 1 pc') (kk : SemG emb X k d pc' ls (.int (x + y) :: st) S f) : SemG emb X k d pc ls (.int y :: .int x :: st) S f := fun a ha => ev_iadd hd (kk a ha)
theorem g_isub {x y : Int32} (hd : dI k.2.1 pc .isub 1 pc') (kk : SemG emb X k d pc' ls (.int (x - y) :: st) S f) : SemG emb X k d pc ls (.int y :: .int x :: st) S f := fun a ha => ev_isub hd (kk a ha)
theorem g_imul {x y : Int32} (hd : dI k.2.1 pc .imul 1 pc') (kk : SemG emb X k d pc' ls (.int (x * y) :: st) S f) : SemG emb X k d pc ls (.int y :: .int x :: st) S f := fun a ha => ev_imul hd (kk a ha)
theorem g_iand {x y : Int32} (hd : dI k.2.1 pc .iand 1 pc') (kk : SemG emb X k d pc' ls (.int (x &&& y) :: st) S f) : SemG emb X k d pc ls (.int y :: .int x :: st) S f := fun a ha => ev_iand hd (kk a ha)
theorem g_ishl {x y : Int32} (hd : dI k.2.1 pc .ishl 1 pc') (kk : SemG emb X k d pc' ls (.int (x <<< (y &&& 31)) :: st) S f) : SemG emb X k d pc ls (.int y :: .int x :: st) S f := fun a ha => ev_ishl hd (kk a ha)
theorem g_ishr {x y : Int32} (hd : dI k.2.1 pc .ishr 1 pc') (kk : SemG emb X k d pc' ls (.int (x >>> (y &&& 31)) :: st) S f) : SemG emb X k d pc ls (.int y :: .int x :: st) S f := fun a ha => ev_ishr hd (kk a ha)
theorem g_idiv {x y : Int32} (hd : dI k.2.1 pc .idiv 1 pc') (hy : ¬ y = 0) (kk : SemG emb X k d pc' ls (.int (x / y) :: st) S f) : SemG emb X k d pc ls (.int y :: .int x :: st) S f := fun a ha => ev_idiv hd hy (kk a ha)
theorem g_irem {x y : Int32} (hd : dI k.2.1 pc .irem 1 pc') (hy : ¬ y = 0) (kk : SemG emb X k d pc' ls (.int (x - x / y * y) :: st) S f) : SemG emb X k d pc ls (.int y :: .int x :: st) S f := fun a ha => ev_irem hd hy (kk a ha)
theorem g_iushr {x y : Int32} (hd : dI k.2.1 pc .iushr 1 pc') (kk : SemG emb X k d pc' ls (.int ((x.toUInt32 >>> (y.toUInt32 &&& Int32.toUInt32 31)).toInt32) :: st) S f) : SemG emb X k d pc ls (.int y :: .int x :: st) S f := fun a ha => ev_iushr hd (kk a ha)
theorem g_i2b {x : Int32} (hd : dI k.2.1 pc .i2b 1 pc') (kk : SemG emb X k d pc' ls (.int (x.toInt8.toInt32) :: st) S f) : SemG emb X k d pc ls (.int x :: st) S f := fun a ha => ev_i2b hd (kk a ha)
theorem g_i2s {x : Int32} (hd : dI k.2.1 pc .i2s 1 pc') (kk : SemG emb X k d pc' ls (.int (x.toInt16.toInt32) :: st) S f) : SemG emb X k d pc ls (.int x :: st) S f := fun a ha => ev_i2s hd (kk a ha)
theorem g_i2c {x : Int32} (hd : dI k.2.1 pc .i2c 1 pc') (kk : SemG emb X k d pc' ls (.int ((x.toUInt32 % 65536).toInt32) :: st) S f) : SemG emb X k d pc ls (.int x :: st) S f := fun a ha => ev_i2c hd (kk a ha)
theorem g_dup {a : Value} (hd : dI k.2.1 pc .dup 1 pc') (h1 : a.category = 1) (kk : SemG emb X k d pc' ls (a :: a :: st) S f) : SemG emb X k d pc ls (a :: st) S f := fun a ha => ev_dup hd h1 (kk a ha)
theorem g_dup_x1 {a b : Value} (hd : dI k.2.1 pc .dup_x1 1 pc') (h1 : a.category = 1) (h2 : b.category = 1) (kk : SemG emb X k d pc' ls (a :: b :: a :: st) S f) : SemG emb X k d pc ls (a :: b :: st) S f := fun a ha => ev_dup_x1 hd h1 h2 (kk a ha)
theorem g_dup2 {a b : Value} (hd : dI k.2.1 pc .dup2 1 pc') (h1 : a.category = 1) (h2 : b.category = 1) (kk : SemG emb X k d pc' ls (a :: b :: a :: b :: st) S f) : SemG emb X k d pc ls (a :: b :: st) S f := fun a ha => ev_dup2 hd h1 h2 (kk a ha)
theorem g_pop {a : Value} (hd : dI k.2.1 pc .pop 1 pc') (h1 : a.category = 1) (kk : SemG emb X k d pc' ls (st) S f) : SemG emb X k d pc ls (a :: st) S f := fun a ha => ev_pop hd h1 (kk a ha)
theorem g_goto {off : Int} (hd : dJ k.2.1 pc (.goto off) off pc' tgt) (kk : SemG emb X k d tgt ls st S f) : SemG emb X k d pc ls st S f := fun a ha => ev_goto hd (kk a ha)
theorem g_table_in {dflt lo hi : Int} {offs : Array Int} {len : Nat} {x : Int32} {off : Int} (hd : decode k.2.1 pc = .ok (.tableswitch dflt lo hi offs, len)) (h1 : ¬ x.toInt < lo) (h2 : ¬ hi < x.toInt) (ho : offs[(x.toInt - lo).toNat]? = some off) (ht : (pc : Int) + off = (tgt : Int)) (kk : SemG emb X k d tgt ls st S f) : SemG emb X k d pc ls (.int x :: st) S f := fun a ha => ev_table_in hd h1 h2 ho ht (kk a ha)
theorem g_table_out {dflt lo hi : Int} {offs : Array Int} {len : Nat} {x : Int32} (hd : decode k.2.1 pc = .ok (.tableswitch dflt lo hi offs, len)) (h : x.toInt < lo ∨ hi < x.toInt) (ht : (pc : Int) + dflt = (tgt : Int)) (kk : SemG emb X k d tgt ls st S f) : SemG emb X k d pc ls (.int x :: st) S f := fun a ha => ev_table_out hd h ht (kk a ha)
theorem g_lookup {dflt : Int} {ps : Array (Int × Int)} {len : Nat} {x : Int32} {off : Int} (hd : decode k.2.1 pc = .ok (.lookupswitch dflt ps, len)) (hp : (ps.toList.zip (ps.toList.drop 1)).all (fun (a, next) => a.1 < next.1) = true) (ho : Op.lookupswitch.offset ps.toList dflt x.toInt = off) (ht : (pc : Int) + off = (tgt : Int)) (kk : SemG emb X k d tgt ls st S f) : SemG emb X k d pc ls (.int x :: st) S f := fun a ha => ev_lookup hd hp ho ht (kk a ha)
theorem g_icmp_eq {x y : Int32} {off : Int} (hd : dJ k.2.1 pc (.if_icmp .eq off) off pc' tgt) (kt : x = y → SemG emb X k d tgt ls st S f) (kf : ¬ x = y → SemG emb X k d pc' ls st S f) : SemG emb X k d pc ls (.int y :: .int x :: st) S f := fun a ha => ev_icmp_eq hd (fun h => kt h a ha) (fun h => kf h a ha)
theorem g_if_eq {x : Int32} {off : Int} (hd : dJ k.2.1 pc (.ifCond .eq off) off pc' tgt) (kt : x = 0 → SemG emb X k d tgt ls st S f) (kf : ¬ x = 0 → SemG emb X k d pc' ls st S f) : SemG emb X k d pc ls (.int x :: st) S f := fun a ha => ev_if_eq hd (fun h => kt h a ha) (fun h => kf h a ha)
theorem g_icmp_ne {x y : Int32} {off : Int} (hd : dJ k.2.1 pc (.if_icmp .ne off) off pc' tgt) (kt : ¬ x = y → SemG emb X k d tgt ls st S f) (kf : x = y → SemG emb X k d pc' ls st S f) : SemG emb X k d pc ls (.int y :: .int x :: st) S f := fun a ha => ev_icmp_ne hd (fun h => kt h a ha) (fun h => kf h a ha)
theorem g_if_ne {x : Int32} {off : Int} (hd : dJ k.2.1 pc (.ifCond .ne off) off pc' tgt) (kt : ¬ x = 0 → SemG emb X k d tgt ls st S f) (kf : x = 0 → SemG emb X k d pc' ls st S f) : SemG emb X k d pc ls (.int x :: st) S f := fun a ha => ev_if_ne hd (fun h => kt h a ha) (fun h => kf h a ha)
theorem g_icmp_lt {x y : Int32} {off : Int} (hd : dJ k.2.1 pc (.if_icmp .lt off) off pc' tgt) (kt : x < y → SemG emb X k d tgt ls st S f) (kf : ¬ x < y → SemG emb X k d pc' ls st S f) : SemG emb X k d pc ls (.int y :: .int x :: st) S f := fun a ha => ev_icmp_lt hd (fun h => kt h a ha) (fun h => kf h a ha)
theorem g_if_lt {x : Int32} {off : Int} (hd : dJ k.2.1 pc (.ifCond .lt off) off pc' tgt) (kt : x < 0 → SemG emb X k d tgt ls st S f) (kf : ¬ x < 0 → SemG emb X k d pc' ls st S f) : SemG emb X k d pc ls (.int x :: st) S f := fun a ha => ev_if_lt hd (fun h => kt h a ha) (fun h => kf h a ha)
theorem g_icmp_ge {x y : Int32} {off : Int} (hd : dJ k.2.1 pc (.if_icmp .ge off) off pc' tgt) (kt : y ≤ x → SemG emb X k d tgt ls st S f) (kf : ¬ y ≤ x → SemG emb X k d pc' ls st S f) : SemG emb X k d pc ls (.int y :: .int x :: st) S f := fun a ha => ev_icmp_ge hd (fun h => kt h a ha) (fun h => kf h a ha)
theorem g_if_ge {x : Int32} {off : Int} (hd : dJ k.2.1 pc (.ifCond .ge off) off pc' tgt) (kt : 0 ≤ x → SemG emb X k d tgt ls st S f) (kf : ¬ 0 ≤ x → SemG emb X k d pc' ls st S f) : SemG emb X k d pc ls (.int x :: st) S f := fun a ha => ev_if_ge hd (fun h => kt h a ha) (fun h => kf h a ha)
theorem g_icmp_gt {x y : Int32} {off : Int} (hd : dJ k.2.1 pc (.if_icmp .gt off) off pc' tgt) (kt : y < x → SemG emb X k d tgt ls st S f) (kf : ¬ y < x → SemG emb X k d pc' ls st S f) : SemG emb X k d pc ls (.int y :: .int x :: st) S f := fun a ha => ev_icmp_gt hd (fun h => kt h a ha) (fun h => kf h a ha)
theorem g_if_gt {x : Int32} {off : Int} (hd : dJ k.2.1 pc (.ifCond .gt off) off pc' tgt) (kt : 0 < x → SemG emb X k d tgt ls st S f) (kf : ¬ 0 < x → SemG emb X k d pc' ls st S f) : SemG emb X k d pc ls (.int x :: st) S f := fun a ha => ev_if_gt hd (fun h => kt h a ha) (fun h => kf h a ha)
theorem g_icmp_le {x y : Int32} {off : Int} (hd : dJ k.2.1 pc (.if_icmp .le off) off pc' tgt) (kt : x ≤ y → SemG emb X k d tgt ls st S f) (kf : ¬ x ≤ y → SemG emb X k d pc' ls st S f) : SemG emb X k d pc ls (.int y :: .int x :: st) S f := fun a ha => ev_icmp_le hd (fun h => kt h a ha) (fun h => kf h a ha)
theorem g_if_le {x : Int32} {off : Int} (hd : dJ k.2.1 pc (.ifCond .le off) off pc' tgt) (kt : x ≤ 0 → SemG emb X k d tgt ls st S f) (kf : ¬ x ≤ 0 → SemG emb X k d pc' ls st S f) : SemG emb X k d pc ls (.int x :: st) S f := fun a ha => ev_if_le hd (fun h => kt h a ha) (fun h => kf h a ha)
theorem g_ireturn {f : Option (Int32 × St)} {v : Int32} {ty : FieldType} (hd : decode k.2.1 pc = .ok (.ireturn, 1)) (ht : k.2.2.2 = some ty) (hn : narrow ty (.int v) = .int v) (hf : f = some (v, S)) : SemG eI X k d pc ls [.int v] S f := by
  subst hf
  intro a h
  cases h
  exact ev_ireturn hd ht hn
theorem g_return {f : Option St} (hd : decode k.2.1 pc = .ok (.return_, 1)) (ht : k.2.2.2 = none) (hf : f = some S) : SemG eV X k d pc ls [] S f := by
  subst hf
  intro a h
  cases h
  exact ev_return hd ht
theorem g_areturn {f : Option (Nat × St)} {v : Nat} {nm : String} (hd : decode k.2.1 pc = .ok (.areturn, 1)) (ht : k.2.2.2 = some (.object nm)) (hf : f = some (v, S)) : SemG eR X k d pc ls [.ref v] S f := by
  subst hf
  intro a h
  cases h
  exact ev_areturn hd ht
theorem g_getR {idx c ci j c' : Nat} {fs : List (Option Nat)} (hd : dI k.2.1 pc (.getfield idx) 3 pc') (hf : FLk k.1.cls idx ci j) (hc : lay[c]? = some (.inr (.inr (ci, fs)))) (hj : fs[j]? = some (some c')) (kk : SemG emb X k d pc' ls (.ref (xB X + c') :: st) S f) : SemG emb X k d pc ls (.ref (xB X + c) :: st) S f := by
  intro a ha
  have hjl : j < fs.length := (List.getElem?_eq_some_iff.mp hj).1
  refine ev_get hd hf (mkM_obj hc) (v := .ref (xB X + c')) ?_ (kk a ha)
  rw [List.getElem?_map, List.getElem?_range hjl]
  simp only [Option.map_some, hj, Option.join_some, fv]
theorem g_getI {idx c ci j : Nat} {fs : List (Option Nat)} (hd : dI k.2.1 pc (.getfield idx) 3 pc') (hf : FLk k.1.cls idx ci j) (hc : lay[c]? = some (.inr (.inr (ci, fs)))) (hj : fs[j]? = some none) (kk : SemG emb X k d pc' ls (.int (S c j) :: st) S f) : SemG emb X k d pc ls (.ref (xB X + c) :: st) S f := by
  intro a ha
  have hjl : j < fs.length := (List.getElem?_eq_some_iff.mp hj).1
  refine ev_get hd hf (mkM_obj hc) (v := .int (S c j)) ?_ (kk a ha)
  rw [List.getElem?_map, List.getElem?_range hjl]
  simp only [Option.map_some, hj, Option.join_some, fv]
theorem g_putI {idx c ci j : Nat} {x : Int32} {fs : List (Option Nat)} (hd : dI k.2.1 pc (.putfield idx) 3 pc') (hf : FLk k.1.cls idx ci j) (hfin : FinK ci j false) (hc : lay[c]? = some (.inr (.inr (ci, fs)))) (hj : fs[j]? = some none) (hn : narrow (clsT ci j) (.int x) = .int x) (hfit : fits (clsT ci j) (.int x) = true) (kk : SemG emb X k d pc' ls st (put S c j x) f) : SemG emb X k d pc ls (.int x :: .ref (xB X + c) :: st) S f := by
  intro a ha
  have hjl : j < fs.length := (List.getElem?_eq_some_iff.mp hj).1
  refine ev_put hd hf hfin (mkM_obj hc) hn hfit (by simpa using hjl) ?_
  rw [mkM_fld_set hc hj]
  exact kk a ha
theorem g_ild {c n j : Nat} {i : Int32} (hd : dI k.2.1 pc .iaload 1 pc') (hc : lay[c]? = some (.inl n)) (hi : inb i n = true) (hj : i.toNatClampNeg = j) (kk : SemG emb X k d pc' ls (.int (S c j) :: st) S f) : SemG emb X k d pc ls (.int i :: .ref (xB X + c) :: st) S f := by
  subst hj
  exact fun a ha => ev_iald hd (mkM_arr hc) (inb_in hi) (kk a ha)
theorem g_ist {c n j : Nat} {i x : Int32} (hd : dI k.2.1 pc .iastore 1 pc') (hc : lay[c]? = some (.inl n)) (hi : inb i n = true) (hj : i.toNatClampNeg = j) (kk : SemG emb X k d pc' ls st (put S c j x) f) : SemG emb X k d pc ls (.int x :: .int i :: .ref (xB X + c) :: st) S f := by
  subst hj
  intro a ha
  refine ev_iast hd (mkM_arr hc) (inb_in hi) ?_
  rw [mkM_arr_set hc]
  exact kk a ha
theorem g_ald {c q t c' : Nat} {Cn : String} {cs : List Nat} {i : Int32} (hd : dI k.2.1 pc .aaload 1 pc') (hc : lay[c]? = some (.inr (.inl (q, cs)))) (ht : (xTys X)[t]? = some (xR X q, .object Cn)) (hi : inb i cs.length = true) (hj : cs[i.toNatClampNeg]? = some c') (kk : SemG emb X k d pc' ls (.ref (xB X + c') :: st) S f) : SemG emb X k d pc ls (.int i :: .ref (xB X + c) :: st) S f := by
  intro a ha
  exact ev_aald hd (mkM_rar hc) ht (inb_in hi) (by rw [hj]; rfl) (kk a ha)
theorem g_alen {c n : Nat} {v : Int32} (hd : dI k.2.1 pc .arraylength 1 pc') (hc : lay[c]? = some (.inl n)) (hv : Int32.ofNat n = v) (kk : SemG emb X k d pc' ls (.int v :: st) S f) : SemG emb X k d pc ls (.ref (xB X + c) :: st) S f :=
  fun a ha => ev_alen hd (mkM_arr hc) hv (kk a ha)
theorem g_mmax {idx : Nat} {x y : Int32} (hd : dI k.2.1 pc (.invokestatic idx) 3 pc') (hw : Cond.methodLink k.1.cls idx Lib.Math.max.name ∈ TG) (hst : (st.map fun v => v.category).sum ≤ 8) (kk : SemG emb X k (d + 1) pc' ls (.int (if x < y then y else x) :: st) S f) : SemG emb X k (d + 1) pc ls (.int y :: .int x :: st) S f := fun a ha => ev_mmax hd hw hst (kk a ha)
theorem g_mmin {idx : Nat} {x y : Int32} (hd : dI k.2.1 pc (.invokestatic idx) 3 pc') (hw : Cond.methodLink k.1.cls idx Lib.Math.min.name ∈ TG) (hst : (st.map fun v => v.category).sum ≤ 8) (kk : SemG emb X k (d + 1) pc' ls (.int (if y < x then y else x) :: st) S f) : SemG emb X k (d + 1) pc ls (.int y :: .int x :: st) S f := fun a ha => ev_mmin hd hw hst (kk a ha)
/-- may so many be copied from one place on to another -/
def cpok (sp dp n : Int32) (n0 n1 : Nat) : Bool := decide (¬ sp < 0) && decide (¬ dp < 0) && decide (¬ n < 0) && decide (sp.toNatClampNeg + n.toNatClampNeg ≤ n0) && decide (dp.toNatClampNeg + n.toNatClampNeg ≤ n1)
def cpy (S : St) (c0 c1 : Nat) (sp dp n : Int32) : St := va_up S c1 (va_cpy (S c0) (S c1) sp.toNatClampNeg dp.toNatClampNeg n.toNatClampNeg)
theorem g_copy {idx c0 c1 n0 n1 : Nat} {sp dp n : Int32} (hd : dI k.2.1 pc (.invokestatic idx) 3 pc') (hw : Cond.methodLink k.1.cls idx arraycopyName ∈ TG) (hst : (st.map fun v => v.category).sum ≤ 8) (hc0 : lay[c0]? = some (.inl n0)) (hc1 : lay[c1]? = some (.inl n1)) (hok : cpok sp dp n n0 n1 = true) (kk : SemG emb X k (d + 1) pc' ls st (cpy S c0 c1 sp dp n) f) : SemG emb X k (d + 1) pc ls (.int n :: .int dp :: .ref (xB X + c1) :: .int sp :: .ref (xB X + c0) :: st) S f := by
  intro a ha
  simp only [cpok, Bool.and_eq_true, decide_eq_true_eq] at hok
  obtain ⟨⟨⟨⟨h1, h2⟩, h3⟩, h4⟩, h5⟩ := hok
  refine ev_copy hd hw hst (mkM_arr hc0) (mkM_arr hc1) h1 h2 h3 h4 h5 ?_
  rw [mkM_arr_set hc1]
  exact kk a ha
def lsub : List (Option Value) → List (Option Value) → Prop
  | [], _ => True
  | none :: a, _ :: b => lsub a b
  | none :: a, [] => lsub a []
  | some _ :: _, [] => False
  | some v :: a, w :: b => some v = w ∧ lsub a b
theorem lsub_get : ∀ (a b : List (Option Value)), lsub a b → ∀ (i : Nat) (v : Value), a[i]? = some (some v) → b[i]? = some (some v)
  | [], b, _, i, v, hi => by simp at hi
  | none :: a, w :: b, h, 0, v, hi => by simp at hi
  | none :: a, w :: b, h, i + 1, v, hi => by
    rw [List.getElem?_cons_succ] at hi ⊢
    exact lsub_get a b h i v hi
  | none :: a, [], h, 0, v, hi => by simp at hi
  | none :: a, [], h, i + 1, v, hi => by
    rw [List.getElem?_cons_succ] at hi
    have := lsub_get a [] h i v hi
    simp at this
  | some u :: a, w :: b, h, 0, v, hi => by
    rw [List.getElem?_cons_zero] at hi ⊢
    rw [← h.1]; exact hi
  | some u :: a, w :: b, h, i + 1, v, hi => by
    rw [List.getElem?_cons_succ] at hi ⊢
    exact lsub_get a b h.2 i v hi
theorem g_less {ls2 : List (Option Value)} (h : lsub ls2 ls) (kk : SemG emb X k d pc ls2 st S f) : SemG emb X k d pc ls st S f := by
  intro a ha p l e R s m args below meth c C H locs cells slots hW hS hc hs la hl
  exact kk a ha p l e R s m args below meth c C H locs cells slots hW hS hc hs la ⟨hl.1, fun i v hi => hl.2 i v (lsub_get _ _ h i v hi)⟩
def VcK (ci : Nat) (k2 : Mth) : Prop := ∃ q : vw_C, cls[ci]? = some q ∧ q.1 = k2.1.cls
theorem g_callV0I {k2 : Mth} {idx c ci : Nat} {fs : List (Option Nat)} {g : Option (Int32 × St)} {ff : (Int32 × St) → Option α} (hd : dI k.2.1 pc (.invokevirtual idx) 3 pc') (hw : Cond.methodLink k.1.cls idx k2.1 ∈ TG) (hk : VirK k2 0) (hc : lay[c]? = some (.inr (.inr (ci, fs)))) (hv : VcK ci k2)  (hst : (st.map fun v => v.category).sum ≤ 8) (h : SemG eI X k2 d 0 (ini k2 (.ref (xB X + c) :: [])) [] S g) (kk : ∀ q, SemG emb X k (d + 1) pc' ls (.int q.1 :: st) q.2 (ff q)) : SemG emb X k (d + 1) pc ls (.ref (xB X + c) :: st) S (g.bind ff) := by
  intro a ha
  obtain ⟨q, hq, ha⟩ := Option.bind_eq_some_iff.mp ha
  obtain ⟨qc, h1, h2⟩ := hv
  exact ev_callV (As := []) hd hw hk (mkM_obj hc) h1 h2 (fun v hv => by cases hv) hst (h q hq) (kk q a ha)
theorem g_callS0I {k2 : Mth} {idx : Nat} {g : Option (Int32 × St)} {ff : (Int32 × St) → Option α} (hd : dI k.2.1 pc (.invokestatic idx) 3 pc') (hw : Cond.methodLink k.1.cls idx k2.1 ∈ TG) (hk : StaK k2 0)  (hst : (st.map fun v => v.category).sum ≤ 8) (h : SemG eI X k2 d 0 (ini k2 []) [] S g) (kk : ∀ q, SemG emb X k (d + 1) pc' ls (.int q.1 :: st) q.2 (ff q)) : SemG emb X k (d + 1) pc ls (st) S (g.bind ff) := by
  intro a ha
  obtain ⟨q, hq, ha⟩ := Option.bind_eq_some_iff.mp ha
  exact ev_callS (As := []) hd hw hk (fun v hv => by cases hv) hst (h q hq) (kk q a ha)
theorem g_callN0I {k2 : Mth} {idx : Nat} {g : Option (Int32 × St)} {ff : (Int32 × St) → Option α} (hd : dI k.2.1 pc (.invokestatic idx) 3 pc') {host : String} (hw : (k.1.cls, idx, k2.1, host) ∈ nests) (hk : StaK k2 0)  (hst : (st.map fun v => v.category).sum ≤ 8) (h : SemG eI X k2 d 0 (ini k2 []) [] S g) (kk : ∀ q, SemG emb X k (d + 1) pc' ls (.int q.1 :: st) q.2 (ff q)) : SemG emb X k (d + 1) pc ls (st) S (g.bind ff) := by
  intro a ha
  obtain ⟨q, hq, ha⟩ := Option.bind_eq_some_iff.mp ha
  exact ev_callSN (As := []) hd hw hk (fun v hv => by cases hv) hst (h q hq) (kk q a ha)
theorem g_callV0V {k2 : Mth} {idx c ci : Nat} {fs : List (Option Nat)} {g : Option (St)} {ff : St → Option α} (hd : dI k.2.1 pc (.invokevirtual idx) 3 pc') (hw : Cond.methodLink k.1.cls idx k2.1 ∈ TG) (hk : VirK k2 0) (hc : lay[c]? = some (.inr (.inr (ci, fs)))) (hv : VcK ci k2)  (hst : (st.map fun v => v.category).sum ≤ 8) (h : SemG eV X k2 d 0 (ini k2 (.ref (xB X + c) :: [])) [] S g) (kk : ∀ q, SemG emb X k (d + 1) pc' ls (st) q (ff q)) : SemG emb X k (d + 1) pc ls (.ref (xB X + c) :: st) S (g.bind ff) := by
  intro a ha
  obtain ⟨q, hq, ha⟩ := Option.bind_eq_some_iff.mp ha
  obtain ⟨qc, h1, h2⟩ := hv
  exact ev_callV (As := []) hd hw hk (mkM_obj hc) h1 h2 (fun v hv => by cases hv) hst (h q hq) (kk q a ha)
theorem g_callS0V {k2 : Mth} {idx : Nat} {g : Option (St)} {ff : St → Option α} (hd : dI k.2.1 pc (.invokestatic idx) 3 pc') (hw : Cond.methodLink k.1.cls idx k2.1 ∈ TG) (hk : StaK k2 0)  (hst : (st.map fun v => v.category).sum ≤ 8) (h : SemG eV X k2 d 0 (ini k2 []) [] S g) (kk : ∀ q, SemG emb X k (d + 1) pc' ls (st) q (ff q)) : SemG emb X k (d + 1) pc ls (st) S (g.bind ff) := by
  intro a ha
  obtain ⟨q, hq, ha⟩ := Option.bind_eq_some_iff.mp ha
  exact ev_callS (As := []) hd hw hk (fun v hv => by cases hv) hst (h q hq) (kk q a ha)
theorem g_callN0V {k2 : Mth} {idx : Nat} {g : Option (St)} {ff : St → Option α} (hd : dI k.2.1 pc (.invokestatic idx) 3 pc') {host : String} (hw : (k.1.cls, idx, k2.1, host) ∈ nests) (hk : StaK k2 0)  (hst : (st.map fun v => v.category).sum ≤ 8) (h : SemG eV X k2 d 0 (ini k2 []) [] S g) (kk : ∀ q, SemG emb X k (d + 1) pc' ls (st) q (ff q)) : SemG emb X k (d + 1) pc ls (st) S (g.bind ff) := by
  intro a ha
  obtain ⟨q, hq, ha⟩ := Option.bind_eq_some_iff.mp ha
  exact ev_callSN (As := []) hd hw hk (fun v hv => by cases hv) hst (h q hq) (kk q a ha)
theorem g_callV1I {a1 : Value} {k2 : Mth} {idx c ci : Nat} {fs : List (Option Nat)} {g : Option (Int32 × St)} {ff : (Int32 × St) → Option α} (hd : dI k.2.1 pc (.invokevirtual idx) 3 pc') (hw : Cond.methodLink k.1.cls idx k2.1 ∈ TG) (hk : VirK k2 1) (hc : lay[c]? = some (.inr (.inr (ci, fs)))) (hv : VcK ci k2) (e1 : a1.category = 1) (hst : (st.map fun v => v.category).sum ≤ 8) (h : SemG eI X k2 d 0 (ini k2 (.ref (xB X + c) :: [a1])) [] S g) (kk : ∀ q, SemG emb X k (d + 1) pc' ls (.int q.1 :: st) q.2 (ff q)) : SemG emb X k (d + 1) pc ls (a1 :: .ref (xB X + c) :: st) S (g.bind ff) := by
  intro a ha
  obtain ⟨q, hq, ha⟩ := Option.bind_eq_some_iff.mp ha
  obtain ⟨qc, h1, h2⟩ := hv
  exact ev_callV (As := [a1]) hd hw hk (mkM_obj hc) h1 h2 (cat_cons e1 (fun v hv => by cases hv)) hst (h q hq) (kk q a ha)
theorem g_callS1I {a1 : Value} {k2 : Mth} {idx : Nat} {g : Option (Int32 × St)} {ff : (Int32 × St) → Option α} (hd : dI k.2.1 pc (.invokestatic idx) 3 pc') (hw : Cond.methodLink k.1.cls idx k2.1 ∈ TG) (hk : StaK k2 1) (e1 : a1.category = 1) (hst : (st.map fun v => v.category).sum ≤ 8) (h : SemG eI X k2 d 0 (ini k2 [a1]) [] S g) (kk : ∀ q, SemG emb X k (d + 1) pc' ls (.int q.1 :: st) q.2 (ff q)) : SemG emb X k (d + 1) pc ls (a1 :: st) S (g.bind ff) := by
  intro a ha
  obtain ⟨q, hq, ha⟩ := Option.bind_eq_some_iff.mp ha
  exact ev_callS (As := [a1]) hd hw hk (cat_cons e1 (fun v hv => by cases hv)) hst (h q hq) (kk q a ha)
theorem g_callN1I {a1 : Value} {k2 : Mth} {idx : Nat} {g : Option (Int32 × St)} {ff : (Int32 × St) → Option α} (hd : dI k.2.1 pc (.invokestatic idx) 3 pc') {host : String} (hw : (k.1.cls, idx, k2.1, host) ∈ nests) (hk : StaK k2 1) (e1 : a1.category = 1) (hst : (st.map fun v => v.category).sum ≤ 8) (h : SemG eI X k2 d 0 (ini k2 [a1]) [] S g) (kk : ∀ q, SemG emb X k (d + 1) pc' ls (.int q.1 :: st) q.2 (ff q)) : SemG emb X k (d + 1) pc ls (a1 :: st) S (g.bind ff) := by
  intro a ha
  obtain ⟨q, hq, ha⟩ := Option.bind_eq_some_iff.mp ha
  exact ev_callSN (As := [a1]) hd hw hk (cat_cons e1 (fun v hv => by cases hv)) hst (h q hq) (kk q a ha)
theorem g_callV1V {a1 : Value} {k2 : Mth} {idx c ci : Nat} {fs : List (Option Nat)} {g : Option (St)} {ff : St → Option α} (hd : dI k.2.1 pc (.invokevirtual idx) 3 pc') (hw : Cond.methodLink k.1.cls idx k2.1 ∈ TG) (hk : VirK k2 1) (hc : lay[c]? = some (.inr (.inr (ci, fs)))) (hv : VcK ci k2) (e1 : a1.category = 1) (hst : (st.map fun v => v.category).sum ≤ 8) (h : SemG eV X k2 d 0 (ini k2 (.ref (xB X + c) :: [a1])) [] S g) (kk : ∀ q, SemG emb X k (d + 1) pc' ls (st) q (ff q)) : SemG emb X k (d + 1) pc ls (a1 :: .ref (xB X + c) :: st) S (g.bind ff) := by
  intro a ha
  obtain ⟨q, hq, ha⟩ := Option.bind_eq_some_iff.mp ha
  obtain ⟨qc, h1, h2⟩ := hv
  exact ev_callV (As := [a1]) hd hw hk (mkM_obj hc) h1 h2 (cat_cons e1 (fun v hv => by cases hv)) hst (h q hq) (kk q a ha)
theorem g_callS1V {a1 : Value} {k2 : Mth} {idx : Nat} {g : Option (St)} {ff : St → Option α} (hd : dI k.2.1 pc (.invokestatic idx) 3 pc') (hw : Cond.methodLink k.1.cls idx k2.1 ∈ TG) (hk : StaK k2 1) (e1 : a1.category = 1) (hst : (st.map fun v => v.category).sum ≤ 8) (h : SemG eV X k2 d 0 (ini k2 [a1]) [] S g) (kk : ∀ q, SemG emb X k (d + 1) pc' ls (st) q (ff q)) : SemG emb X k (d + 1) pc ls (a1 :: st) S (g.bind ff) := by
  intro a ha
  obtain ⟨q, hq, ha⟩ := Option.bind_eq_some_iff.mp ha
  exact ev_callS (As := [a1]) hd hw hk (cat_cons e1 (fun v hv => by cases hv)) hst (h q hq) (kk q a ha)
theorem g_callN1V {a1 : Value} {k2 : Mth} {idx : Nat} {g : Option (St)} {ff : St → Option α} (hd : dI k.2.1 pc (.invokestatic idx) 3 pc') {host : String} (hw : (k.1.cls, idx, k2.1, host) ∈ nests) (hk : StaK k2 1) (e1 : a1.category = 1) (hst : (st.map fun v => v.category).sum ≤ 8) (h : SemG eV X k2 d 0 (ini k2 [a1]) [] S g) (kk : ∀ q, SemG emb X k (d + 1) pc' ls (st) q (ff q)) : SemG emb X k (d + 1) pc ls (a1 :: st) S (g.bind ff) := by
  intro a ha
  obtain ⟨q, hq, ha⟩ := Option.bind_eq_some_iff.mp ha
  exact ev_callSN (As := [a1]) hd hw hk (cat_cons e1 (fun v hv => by cases hv)) hst (h q hq) (kk q a ha)
theorem g_callV1R {a1 : Value} {k2 : Mth} {idx c ci : Nat} {fs : List (Option Nat)} {g : Option (Nat × St)} {ff : (Nat × St) → Option α} (hd : dI k.2.1 pc (.invokevirtual idx) 3 pc') (hw : Cond.methodLink k.1.cls idx k2.1 ∈ TG) (hk : VirK k2 1) (hc : lay[c]? = some (.inr (.inr (ci, fs)))) (hv : VcK ci k2) (e1 : a1.category = 1) (hst : (st.map fun v => v.category).sum ≤ 8) (h : SemG eR X k2 d 0 (ini k2 (.ref (xB X + c) :: [a1])) [] S g) (kk : ∀ q, SemG emb X k (d + 1) pc' ls (.ref q.1 :: st) q.2 (ff q)) : SemG emb X k (d + 1) pc ls (a1 :: .ref (xB X + c) :: st) S (g.bind ff) := by
  intro a ha
  obtain ⟨q, hq, ha⟩ := Option.bind_eq_some_iff.mp ha
  obtain ⟨qc, h1, h2⟩ := hv
  exact ev_callV (As := [a1]) hd hw hk (mkM_obj hc) h1 h2 (cat_cons e1 (fun v hv => by cases hv)) hst (h q hq) (kk q a ha)
theorem g_callS1R {a1 : Value} {k2 : Mth} {idx : Nat} {g : Option (Nat × St)} {ff : (Nat × St) → Option α} (hd : dI k.2.1 pc (.invokestatic idx) 3 pc') (hw : Cond.methodLink k.1.cls idx k2.1 ∈ TG) (hk : StaK k2 1) (e1 : a1.category = 1) (hst : (st.map fun v => v.category).sum ≤ 8) (h : SemG eR X k2 d 0 (ini k2 [a1]) [] S g) (kk : ∀ q, SemG emb X k (d + 1) pc' ls (.ref q.1 :: st) q.2 (ff q)) : SemG emb X k (d + 1) pc ls (a1 :: st) S (g.bind ff) := by
  intro a ha
  obtain ⟨q, hq, ha⟩ := Option.bind_eq_some_iff.mp ha
  exact ev_callS (As := [a1]) hd hw hk (cat_cons e1 (fun v hv => by cases hv)) hst (h q hq) (kk q a ha)
theorem g_callN1R {a1 : Value} {k2 : Mth} {idx : Nat} {g : Option (Nat × St)} {ff : (Nat × St) → Option α} (hd : dI k.2.1 pc (.invokestatic idx) 3 pc') {host : String} (hw : (k.1.cls, idx, k2.1, host) ∈ nests) (hk : StaK k2 1) (e1 : a1.category = 1) (hst : (st.map fun v => v.category).sum ≤ 8) (h : SemG eR X k2 d 0 (ini k2 [a1]) [] S g) (kk : ∀ q, SemG emb X k (d + 1) pc' ls (.ref q.1 :: st) q.2 (ff q)) : SemG emb X k (d + 1) pc ls (a1 :: st) S (g.bind ff) := by
  intro a ha
  obtain ⟨q, hq, ha⟩ := Option.bind_eq_some_iff.mp ha
  exact ev_callSN (As := [a1]) hd hw hk (cat_cons e1 (fun v hv => by cases hv)) hst (h q hq) (kk q a ha)
theorem g_callV2I {a1 a2 : Value} {k2 : Mth} {idx c ci : Nat} {fs : List (Option Nat)} {g : Option (Int32 × St)} {ff : (Int32 × St) → Option α} (hd : dI k.2.1 pc (.invokevirtual idx) 3 pc') (hw : Cond.methodLink k.1.cls idx k2.1 ∈ TG) (hk : VirK k2 2) (hc : lay[c]? = some (.inr (.inr (ci, fs)))) (hv : VcK ci k2) (e1 : a1.category = 1) (e2 : a2.category = 1) (hst : (st.map fun v => v.category).sum ≤ 8) (h : SemG eI X k2 d 0 (ini k2 (.ref (xB X + c) :: [a1, a2])) [] S g) (kk : ∀ q, SemG emb X k (d + 1) pc' ls (.int q.1 :: st) q.2 (ff q)) : SemG emb X k (d + 1) pc ls (a2 :: a1 :: .ref (xB X + c) :: st) S (g.bind ff) := by
  intro a ha
  obtain ⟨q, hq, ha⟩ := Option.bind_eq_some_iff.mp ha
  obtain ⟨qc, h1, h2⟩ := hv
  exact ev_callV (As := [a1, a2]) hd hw hk (mkM_obj hc) h1 h2 (cat_cons e1 (cat_cons e2 (fun v hv => by cases hv))) hst (h q hq) (kk q a ha)
theorem g_callS2I {a1 a2 : Value} {k2 : Mth} {idx : Nat} {g : Option (Int32 × St)} {ff : (Int32 × St) → Option α} (hd : dI k.2.1 pc (.invokestatic idx) 3 pc') (hw : Cond.methodLink k.1.cls idx k2.1 ∈ TG) (hk : StaK k2 2) (e1 : a1.category = 1) (e2 : a2.category = 1) (hst : (st.map fun v => v.category).sum ≤ 8) (h : SemG eI X k2 d 0 (ini k2 [a1, a2]) [] S g) (kk : ∀ q, SemG emb X k (d + 1) pc' ls (.int q.1 :: st) q.2 (ff q)) : SemG emb X k (d + 1) pc ls (a2 :: a1 :: st) S (g.bind ff) := by
  intro a ha
  obtain ⟨q, hq, ha⟩ := Option.bind_eq_some_iff.mp ha
  exact ev_callS (As := [a1, a2]) hd hw hk (cat_cons e1 (cat_cons e2 (fun v hv => by cases hv))) hst (h q hq) (kk q a ha)
theorem g_callN2I {a1 a2 : Value} {k2 : Mth} {idx : Nat} {g : Option (Int32 × St)} {ff : (Int32 × St) → Option α} (hd : dI k.2.1 pc (.invokestatic idx) 3 pc') {host : String} (hw : (k.1.cls, idx, k2.1, host) ∈ nests) (hk : StaK k2 2) (e1 : a1.category = 1) (e2 : a2.category = 1) (hst : (st.map fun v => v.category).sum ≤ 8) (h : SemG eI X k2 d 0 (ini k2 [a1, a2]) [] S g) (kk : ∀ q, SemG emb X k (d + 1) pc' ls (.int q.1 :: st) q.2 (ff q)) : SemG emb X k (d + 1) pc ls (a2 :: a1 :: st) S (g.bind ff) := by
  intro a ha
  obtain ⟨q, hq, ha⟩ := Option.bind_eq_some_iff.mp ha
  exact ev_callSN (As := [a1, a2]) hd hw hk (cat_cons e1 (cat_cons e2 (fun v hv => by cases hv))) hst (h q hq) (kk q a ha)
theorem g_callV2V {a1 a2 : Value} {k2 : Mth} {idx c ci : Nat} {fs : List (Option Nat)} {g : Option (St)} {ff : St → Option α} (hd : dI k.2.1 pc (.invokevirtual idx) 3 pc') (hw : Cond.methodLink k.1.cls idx k2.1 ∈ TG) (hk : VirK k2 2) (hc : lay[c]? = some (.inr (.inr (ci, fs)))) (hv : VcK ci k2) (e1 : a1.category = 1) (e2 : a2.category = 1) (hst : (st.map fun v => v.category).sum ≤ 8) (h : SemG eV X k2 d 0 (ini k2 (.ref (xB X + c) :: [a1, a2])) [] S g) (kk : ∀ q, SemG emb X k (d + 1) pc' ls (st) q (ff q)) : SemG emb X k (d + 1) pc ls (a2 :: a1 :: .ref (xB X + c) :: st) S (g.bind ff) := by
  intro a ha
  obtain ⟨q, hq, ha⟩ := Option.bind_eq_some_iff.mp ha
  obtain ⟨qc, h1, h2⟩ := hv
  exact ev_callV (As := [a1, a2]) hd hw hk (mkM_obj hc) h1 h2 (cat_cons e1 (cat_cons e2 (fun v hv => by cases hv))) hst (h q hq) (kk q a ha)
theorem g_callS2V {a1 a2 : Value} {k2 : Mth} {idx : Nat} {g : Option (St)} {ff : St → Option α} (hd : dI k.2.1 pc (.invokestatic idx) 3 pc') (hw : Cond.methodLink k.1.cls idx k2.1 ∈ TG) (hk : StaK k2 2) (e1 : a1.category = 1) (e2 : a2.category = 1) (hst : (st.map fun v => v.category).sum ≤ 8) (h : SemG eV X k2 d 0 (ini k2 [a1, a2]) [] S g) (kk : ∀ q, SemG emb X k (d + 1) pc' ls (st) q (ff q)) : SemG emb X k (d + 1) pc ls (a2 :: a1 :: st) S (g.bind ff) := by
  intro a ha
  obtain ⟨q, hq, ha⟩ := Option.bind_eq_some_iff.mp ha
  exact ev_callS (As := [a1, a2]) hd hw hk (cat_cons e1 (cat_cons e2 (fun v hv => by cases hv))) hst (h q hq) (kk q a ha)
theorem g_callN2V {a1 a2 : Value} {k2 : Mth} {idx : Nat} {g : Option (St)} {ff : St → Option α} (hd : dI k.2.1 pc (.invokestatic idx) 3 pc') {host : String} (hw : (k.1.cls, idx, k2.1, host) ∈ nests) (hk : StaK k2 2) (e1 : a1.category = 1) (e2 : a2.category = 1) (hst : (st.map fun v => v.category).sum ≤ 8) (h : SemG eV X k2 d 0 (ini k2 [a1, a2]) [] S g) (kk : ∀ q, SemG emb X k (d + 1) pc' ls (st) q (ff q)) : SemG emb X k (d + 1) pc ls (a2 :: a1 :: st) S (g.bind ff) := by
  intro a ha
  obtain ⟨q, hq, ha⟩ := Option.bind_eq_some_iff.mp ha
  exact ev_callSN (As := [a1, a2]) hd hw hk (cat_cons e1 (cat_cons e2 (fun v hv => by cases hv))) hst (h q hq) (kk q a ha)
theorem g_callV3I {a1 a2 a3 : Value} {k2 : Mth} {idx c ci : Nat} {fs : List (Option Nat)} {g : Option (Int32 × St)} {ff : (Int32 × St) → Option α} (hd : dI k.2.1 pc (.invokevirtual idx) 3 pc') (hw : Cond.methodLink k.1.cls idx k2.1 ∈ TG) (hk : VirK k2 3) (hc : lay[c]? = some (.inr (.inr (ci, fs)))) (hv : VcK ci k2) (e1 : a1.category = 1) (e2 : a2.category = 1) (e3 : a3.category = 1) (hst : (st.map fun v => v.category).sum ≤ 8) (h : SemG eI X k2 d 0 (ini k2 (.ref (xB X + c) :: [a1, a2, a3])) [] S g) (kk : ∀ q, SemG emb X k (d + 1) pc' ls (.int q.1 :: st) q.2 (ff q)) : SemG emb X k (d + 1) pc ls (a3 :: a2 :: a1 :: .ref (xB X + c) :: st) S (g.bind ff) := by
  intro a ha
  obtain ⟨q, hq, ha⟩ := Option.bind_eq_some_iff.mp ha
  obtain ⟨qc, h1, h2⟩ := hv
  exact ev_callV (As := [a1, a2, a3]) hd hw hk (mkM_obj hc) h1 h2 (cat_cons e1 (cat_cons e2 (cat_cons e3 (fun v hv => by cases hv)))) hst (h q hq) (kk q a ha)
theorem g_callS3I {a1 a2 a3 : Value} {k2 : Mth} {idx : Nat} {g : Option (Int32 × St)} {ff : (Int32 × St) → Option α} (hd : dI k.2.1 pc (.invokestatic idx) 3 pc') (hw : Cond.methodLink k.1.cls idx k2.1 ∈ TG) (hk : StaK k2 3) (e1 : a1.category = 1) (e2 : a2.category = 1) (e3 : a3.category = 1) (hst : (st.map fun v => v.category).sum ≤ 8) (h : SemG eI X k2 d 0 (ini k2 [a1, a2, a3]) [] S g) (kk : ∀ q, SemG emb X k (d + 1) pc' ls (.int q.1 :: st) q.2 (ff q)) : SemG emb X k (d + 1) pc ls (a3 :: a2 :: a1 :: st) S (g.bind ff) := by
  intro a ha
  obtain ⟨q, hq, ha⟩ := Option.bind_eq_some_iff.mp ha
  exact ev_callS (As := [a1, a2, a3]) hd hw hk (cat_cons e1 (cat_cons e2 (cat_cons e3 (fun v hv => by cases hv)))) hst (h q hq) (kk q a ha)
theorem g_callN3I {a1 a2 a3 : Value} {k2 : Mth} {idx : Nat} {g : Option (Int32 × St)} {ff : (Int32 × St) → Option α} (hd : dI k.2.1 pc (.invokestatic idx) 3 pc') {host : String} (hw : (k.1.cls, idx, k2.1, host) ∈ nests) (hk : StaK k2 3) (e1 : a1.category = 1) (e2 : a2.category = 1) (e3 : a3.category = 1) (hst : (st.map fun v => v.category).sum ≤ 8) (h : SemG eI X k2 d 0 (ini k2 [a1, a2, a3]) [] S g) (kk : ∀ q, SemG emb X k (d + 1) pc' ls (.int q.1 :: st) q.2 (ff q)) : SemG emb X k (d + 1) pc ls (a3 :: a2 :: a1 :: st) S (g.bind ff) := by
  intro a ha
  obtain ⟨q, hq, ha⟩ := Option.bind_eq_some_iff.mp ha
  exact ev_callSN (As := [a1, a2, a3]) hd hw hk (cat_cons e1 (cat_cons e2 (cat_cons e3 (fun v hv => by cases hv)))) hst (h q hq) (kk q a ha)
theorem g_callV3V {a1 a2 a3 : Value} {k2 : Mth} {idx c ci : Nat} {fs : List (Option Nat)} {g : Option (St)} {ff : St → Option α} (hd : dI k.2.1 pc (.invokevirtual idx) 3 pc') (hw : Cond.methodLink k.1.cls idx k2.1 ∈ TG) (hk : VirK k2 3) (hc : lay[c]? = some (.inr (.inr (ci, fs)))) (hv : VcK ci k2) (e1 : a1.category = 1) (e2 : a2.category = 1) (e3 : a3.category = 1) (hst : (st.map fun v => v.category).sum ≤ 8) (h : SemG eV X k2 d 0 (ini k2 (.ref (xB X + c) :: [a1, a2, a3])) [] S g) (kk : ∀ q, SemG emb X k (d + 1) pc' ls (st) q (ff q)) : SemG emb X k (d + 1) pc ls (a3 :: a2 :: a1 :: .ref (xB X + c) :: st) S (g.bind ff) := by
  intro a ha
  obtain ⟨q, hq, ha⟩ := Option.bind_eq_some_iff.mp ha
  obtain ⟨qc, h1, h2⟩ := hv
  exact ev_callV (As := [a1, a2, a3]) hd hw hk (mkM_obj hc) h1 h2 (cat_cons e1 (cat_cons e2 (cat_cons e3 (fun v hv => by cases hv)))) hst (h q hq) (kk q a ha)
theorem g_callS3V {a1 a2 a3 : Value} {k2 : Mth} {idx : Nat} {g : Option (St)} {ff : St → Option α} (hd : dI k.2.1 pc (.invokestatic idx) 3 pc') (hw : Cond.methodLink k.1.cls idx k2.1 ∈ TG) (hk : StaK k2 3) (e1 : a1.category = 1) (e2 : a2.category = 1) (e3 : a3.category = 1) (hst : (st.map fun v => v.category).sum ≤ 8) (h : SemG eV X k2 d 0 (ini k2 [a1, a2, a3]) [] S g) (kk : ∀ q, SemG emb X k (d + 1) pc' ls (st) q (ff q)) : SemG emb X k (d + 1) pc ls (a3 :: a2 :: a1 :: st) S (g.bind ff) := by
  intro a ha
  obtain ⟨q, hq, ha⟩ := Option.bind_eq_some_iff.mp ha
  exact ev_callS (As := [a1, a2, a3]) hd hw hk (cat_cons e1 (cat_cons e2 (cat_cons e3 (fun v hv => by cases hv)))) hst (h q hq) (kk q a ha)
theorem g_callN3V {a1 a2 a3 : Value} {k2 : Mth} {idx : Nat} {g : Option (St)} {ff : St → Option α} (hd : dI k.2.1 pc (.invokestatic idx) 3 pc') {host : String} (hw : (k.1.cls, idx, k2.1, host) ∈ nests) (hk : StaK k2 3) (e1 : a1.category = 1) (e2 : a2.category = 1) (e3 : a3.category = 1) (hst : (st.map fun v => v.category).sum ≤ 8) (h : SemG eV X k2 d 0 (ini k2 [a1, a2, a3]) [] S g) (kk : ∀ q, SemG emb X k (d + 1) pc' ls (st) q (ff q)) : SemG emb X k (d + 1) pc ls (a3 :: a2 :: a1 :: st) S (g.bind ff) := by
  intro a ha
  obtain ⟨q, hq, ha⟩ := Option.bind_eq_some_iff.mp ha
  exact ev_callSN (As := [a1, a2, a3]) hd hw hk (cat_cons e1 (cat_cons e2 (cat_cons e3 (fun v hv => by cases hv)))) hst (h q hq) (kk q a ha)
theorem g_callV4I {a1 a2 a3 a4 : Value} {k2 : Mth} {idx c ci : Nat} {fs : List (Option Nat)} {g : Option (Int32 × St)} {ff : (Int32 × St) → Option α} (hd : dI k.2.1 pc (.invokevirtual idx) 3 pc') (hw : Cond.methodLink k.1.cls idx k2.1 ∈ TG) (hk : VirK k2 4) (hc : lay[c]? = some (.inr (.inr (ci, fs)))) (hv : VcK ci k2) (e1 : a1.category = 1) (e2 : a2.category = 1) (e3 : a3.category = 1) (e4 : a4.category = 1) (hst : (st.map fun v => v.category).sum ≤ 8) (h : SemG eI X k2 d 0 (ini k2 (.ref (xB X + c) :: [a1, a2, a3, a4])) [] S g) (kk : ∀ q, SemG emb X k (d + 1) pc' ls (.int q.1 :: st) q.2 (ff q)) : SemG emb X k (d + 1) pc ls (a4 :: a3 :: a2 :: a1 :: .ref (xB X + c) :: st) S (g.bind ff) := by
  intro a ha
  obtain ⟨q, hq, ha⟩ := Option.bind_eq_some_iff.mp ha
  obtain ⟨qc, h1, h2⟩ := hv
  exact ev_callV (As := [a1, a2, a3, a4]) hd hw hk (mkM_obj hc) h1 h2 (cat_cons e1 (cat_cons e2 (cat_cons e3 (cat_cons e4 (fun v hv => by cases hv))))) hst (h q hq) (kk q a ha)
theorem g_callS4I {a1 a2 a3 a4 : Value} {k2 : Mth} {idx : Nat} {g : Option (Int32 × St)} {ff : (Int32 × St) → Option α} (hd : dI k.2.1 pc (.invokestatic idx) 3 pc') (hw : Cond.methodLink k.1.cls idx k2.1 ∈ TG) (hk : StaK k2 4) (e1 : a1.category = 1) (e2 : a2.category = 1) (e3 : a3.category = 1) (e4 : a4.category = 1) (hst : (st.map fun v => v.category).sum ≤ 8) (h : SemG eI X k2 d 0 (ini k2 [a1, a2, a3, a4]) [] S g) (kk : ∀ q, SemG emb X k (d + 1) pc' ls (.int q.1 :: st) q.2 (ff q)) : SemG emb X k (d + 1) pc ls (a4 :: a3 :: a2 :: a1 :: st) S (g.bind ff) := by
  intro a ha
  obtain ⟨q, hq, ha⟩ := Option.bind_eq_some_iff.mp ha
  exact ev_callS (As := [a1, a2, a3, a4]) hd hw hk (cat_cons e1 (cat_cons e2 (cat_cons e3 (cat_cons e4 (fun v hv => by cases hv))))) hst (h q hq) (kk q a ha)
theorem g_callN4I {a1 a2 a3 a4 : Value} {k2 : Mth} {idx : Nat} {g : Option (Int32 × St)} {ff : (Int32 × St) → Option α} (hd : dI k.2.1 pc (.invokestatic idx) 3 pc') {host : String} (hw : (k.1.cls, idx, k2.1, host) ∈ nests) (hk : StaK k2 4) (e1 : a1.category = 1) (e2 : a2.category = 1) (e3 : a3.category = 1) (e4 : a4.category = 1) (hst : (st.map fun v => v.category).sum ≤ 8) (h : SemG eI X k2 d 0 (ini k2 [a1, a2, a3, a4]) [] S g) (kk : ∀ q, SemG emb X k (d + 1) pc' ls (.int q.1 :: st) q.2 (ff q)) : SemG emb X k (d + 1) pc ls (a4 :: a3 :: a2 :: a1 :: st) S (g.bind ff) := by
  intro a ha
  obtain ⟨q, hq, ha⟩ := Option.bind_eq_some_iff.mp ha
  exact ev_callSN (As := [a1, a2, a3, a4]) hd hw hk (cat_cons e1 (cat_cons e2 (cat_cons e3 (cat_cons e4 (fun v hv => by cases hv))))) hst (h q hq) (kk q a ha)
theorem g_callV4V {a1 a2 a3 a4 : Value} {k2 : Mth} {idx c ci : Nat} {fs : List (Option Nat)} {g : Option (St)} {ff : St → Option α} (hd : dI k.2.1 pc (.invokevirtual idx) 3 pc') (hw : Cond.methodLink k.1.cls idx k2.1 ∈ TG) (hk : VirK k2 4) (hc : lay[c]? = some (.inr (.inr (ci, fs)))) (hv : VcK ci k2) (e1 : a1.category = 1) (e2 : a2.category = 1) (e3 : a3.category = 1) (e4 : a4.category = 1) (hst : (st.map fun v => v.category).sum ≤ 8) (h : SemG eV X k2 d 0 (ini k2 (.ref (xB X + c) :: [a1, a2, a3, a4])) [] S g) (kk : ∀ q, SemG emb X k (d + 1) pc' ls (st) q (ff q)) : SemG emb X k (d + 1) pc ls (a4 :: a3 :: a2 :: a1 :: .ref (xB X + c) :: st) S (g.bind ff) := by
  intro a ha
  obtain ⟨q, hq, ha⟩ := Option.bind_eq_some_iff.mp ha
  obtain ⟨qc, h1, h2⟩ := hv
  exact ev_callV (As := [a1, a2, a3, a4]) hd hw hk (mkM_obj hc) h1 h2 (cat_cons e1 (cat_cons e2 (cat_cons e3 (cat_cons e4 (fun v hv => by cases hv))))) hst (h q hq) (kk q a ha)
theorem g_callS4V {a1 a2 a3 a4 : Value} {k2 : Mth} {idx : Nat} {g : Option (St)} {ff : St → Option α} (hd : dI k.2.1 pc (.invokestatic idx) 3 pc') (hw : Cond.methodLink k.1.cls idx k2.1 ∈ TG) (hk : StaK k2 4) (e1 : a1.category = 1) (e2 : a2.category = 1) (e3 : a3.category = 1) (e4 : a4.category = 1) (hst : (st.map fun v => v.category).sum ≤ 8) (h : SemG eV X k2 d 0 (ini k2 [a1, a2, a3, a4]) [] S g) (kk : ∀ q, SemG emb X k (d + 1) pc' ls (st) q (ff q)) : SemG emb X k (d + 1) pc ls (a4 :: a3 :: a2 :: a1 :: st) S (g.bind ff) := by
  intro a ha
  obtain ⟨q, hq, ha⟩ := Option.bind_eq_some_iff.mp ha
  exact ev_callS (As := [a1, a2, a3, a4]) hd hw hk (cat_cons e1 (cat_cons e2 (cat_cons e3 (cat_cons e4 (fun v hv => by cases hv))))) hst (h q hq) (kk q a ha)
theorem g_callN4V {a1 a2 a3 a4 : Value} {k2 : Mth} {idx : Nat} {g : Option (St)} {ff : St → Option α} (hd : dI k.2.1 pc (.invokestatic idx) 3 pc') {host : String} (hw : (k.1.cls, idx, k2.1, host) ∈ nests) (hk : StaK k2 4) (e1 : a1.category = 1) (e2 : a2.category = 1) (e3 : a3.category = 1) (e4 : a4.category = 1) (hst : (st.map fun v => v.category).sum ≤ 8) (h : SemG eV X k2 d 0 (ini k2 [a1, a2, a3, a4]) [] S g) (kk : ∀ q, SemG emb X k (d + 1) pc' ls (st) q (ff q)) : SemG emb X k (d + 1) pc ls (a4 :: a3 :: a2 :: a1 :: st) S (g.bind ff) := by
  intro a ha
  obtain ⟨q, hq, ha⟩ := Option.bind_eq_some_iff.mp ha
  exact ev_callSN (As := [a1, a2, a3, a4]) hd hw hk (cat_cons e1 (cat_cons e2 (cat_cons e3 (cat_cons e4 (fun v hv => by cases hv))))) hst (h q hq) (kk q a ha)
theorem g_callV5I {a1 a2 a3 a4 a5 : Value} {k2 : Mth} {idx c ci : Nat} {fs : List (Option Nat)} {g : Option (Int32 × St)} {ff : (Int32 × St) → Option α} (hd : dI k.2.1 pc (.invokevirtual idx) 3 pc') (hw : Cond.methodLink k.1.cls idx k2.1 ∈ TG) (hk : VirK k2 5) (hc : lay[c]? = some (.inr (.inr (ci, fs)))) (hv : VcK ci k2) (e1 : a1.category = 1) (e2 : a2.category = 1) (e3 : a3.category = 1) (e4 : a4.category = 1) (e5 : a5.category = 1) (hst : (st.map fun v => v.category).sum ≤ 8) (h : SemG eI X k2 d 0 (ini k2 (.ref (xB X + c) :: [a1, a2, a3, a4, a5])) [] S g) (kk : ∀ q, SemG emb X k (d + 1) pc' ls (.int q.1 :: st) q.2 (ff q)) : SemG emb X k (d + 1) pc ls (a5 :: a4 :: a3 :: a2 :: a1 :: .ref (xB X + c) :: st) S (g.bind ff) := by
  intro a ha
  obtain ⟨q, hq, ha⟩ := Option.bind_eq_some_iff.mp ha
  obtain ⟨qc, h1, h2⟩ := hv
  exact ev_callV (As := [a1, a2, a3, a4, a5]) hd hw hk (mkM_obj hc) h1 h2 (cat_cons e1 (cat_cons e2 (cat_cons e3 (cat_cons e4 (cat_cons e5 (fun v hv => by cases hv)))))) hst (h q hq) (kk q a ha)
theorem g_callS5I {a1 a2 a3 a4 a5 : Value} {k2 : Mth} {idx : Nat} {g : Option (Int32 × St)} {ff : (Int32 × St) → Option α} (hd : dI k.2.1 pc (.invokestatic idx) 3 pc') (hw : Cond.methodLink k.1.cls idx k2.1 ∈ TG) (hk : StaK k2 5) (e1 : a1.category = 1) (e2 : a2.category = 1) (e3 : a3.category = 1) (e4 : a4.category = 1) (e5 : a5.category = 1) (hst : (st.map fun v => v.category).sum ≤ 8) (h : SemG eI X k2 d 0 (ini k2 [a1, a2, a3, a4, a5]) [] S g) (kk : ∀ q, SemG emb X k (d + 1) pc' ls (.int q.1 :: st) q.2 (ff q)) : SemG emb X k (d + 1) pc ls (a5 :: a4 :: a3 :: a2 :: a1 :: st) S (g.bind ff) := by
  intro a ha
  obtain ⟨q, hq, ha⟩ := Option.bind_eq_some_iff.mp ha
  exact ev_callS (As := [a1, a2, a3, a4, a5]) hd hw hk (cat_cons e1 (cat_cons e2 (cat_cons e3 (cat_cons e4 (cat_cons e5 (fun v hv => by cases hv)))))) hst (h q hq) (kk q a ha)
theorem g_callN5I {a1 a2 a3 a4 a5 : Value} {k2 : Mth} {idx : Nat} {g : Option (Int32 × St)} {ff : (Int32 × St) → Option α} (hd : dI k.2.1 pc (.invokestatic idx) 3 pc') {host : String} (hw : (k.1.cls, idx, k2.1, host) ∈ nests) (hk : StaK k2 5) (e1 : a1.category = 1) (e2 : a2.category = 1) (e3 : a3.category = 1) (e4 : a4.category = 1) (e5 : a5.category = 1) (hst : (st.map fun v => v.category).sum ≤ 8) (h : SemG eI X k2 d 0 (ini k2 [a1, a2, a3, a4, a5]) [] S g) (kk : ∀ q, SemG emb X k (d + 1) pc' ls (.int q.1 :: st) q.2 (ff q)) : SemG emb X k (d + 1) pc ls (a5 :: a4 :: a3 :: a2 :: a1 :: st) S (g.bind ff) := by
  intro a ha
  obtain ⟨q, hq, ha⟩ := Option.bind_eq_some_iff.mp ha
  exact ev_callSN (As := [a1, a2, a3, a4, a5]) hd hw hk (cat_cons e1 (cat_cons e2 (cat_cons e3 (cat_cons e4 (cat_cons e5 (fun v hv => by cases hv)))))) hst (h q hq) (kk q a ha)
theorem g_callV5V {a1 a2 a3 a4 a5 : Value} {k2 : Mth} {idx c ci : Nat} {fs : List (Option Nat)} {g : Option (St)} {ff : St → Option α} (hd : dI k.2.1 pc (.invokevirtual idx) 3 pc') (hw : Cond.methodLink k.1.cls idx k2.1 ∈ TG) (hk : VirK k2 5) (hc : lay[c]? = some (.inr (.inr (ci, fs)))) (hv : VcK ci k2) (e1 : a1.category = 1) (e2 : a2.category = 1) (e3 : a3.category = 1) (e4 : a4.category = 1) (e5 : a5.category = 1) (hst : (st.map fun v => v.category).sum ≤ 8) (h : SemG eV X k2 d 0 (ini k2 (.ref (xB X + c) :: [a1, a2, a3, a4, a5])) [] S g) (kk : ∀ q, SemG emb X k (d + 1) pc' ls (st) q (ff q)) : SemG emb X k (d + 1) pc ls (a5 :: a4 :: a3 :: a2 :: a1 :: .ref (xB X + c) :: st) S (g.bind ff) := by
  intro a ha
  obtain ⟨q, hq, ha⟩ := Option.bind_eq_some_iff.mp ha
  obtain ⟨qc, h1, h2⟩ := hv
  exact ev_callV (As := [a1, a2, a3, a4, a5]) hd hw hk (mkM_obj hc) h1 h2 (cat_cons e1 (cat_cons e2 (cat_cons e3 (cat_cons e4 (cat_cons e5 (fun v hv => by cases hv)))))) hst (h q hq) (kk q a ha)
theorem g_callS5V {a1 a2 a3 a4 a5 : Value} {k2 : Mth} {idx : Nat} {g : Option (St)} {ff : St → Option α} (hd : dI k.2.1 pc (.invokestatic idx) 3 pc') (hw : Cond.methodLink k.1.cls idx k2.1 ∈ TG) (hk : StaK k2 5) (e1 : a1.category = 1) (e2 : a2.category = 1) (e3 : a3.category = 1) (e4 : a4.category = 1) (e5 : a5.category = 1) (hst : (st.map fun v => v.category).sum ≤ 8) (h : SemG eV X k2 d 0 (ini k2 [a1, a2, a3, a4, a5]) [] S g) (kk : ∀ q, SemG emb X k (d + 1) pc' ls (st) q (ff q)) : SemG emb X k (d + 1) pc ls (a5 :: a4 :: a3 :: a2 :: a1 :: st) S (g.bind ff) := by
  intro a ha
  obtain ⟨q, hq, ha⟩ := Option.bind_eq_some_iff.mp ha
  exact ev_callS (As := [a1, a2, a3, a4, a5]) hd hw hk (cat_cons e1 (cat_cons e2 (cat_cons e3 (cat_cons e4 (cat_cons e5 (fun v hv => by cases hv)))))) hst (h q hq) (kk q a ha)
theorem g_callN5V {a1 a2 a3 a4 a5 : Value} {k2 : Mth} {idx : Nat} {g : Option (St)} {ff : St → Option α} (hd : dI k.2.1 pc (.invokestatic idx) 3 pc') {host : String} (hw : (k.1.cls, idx, k2.1, host) ∈ nests) (hk : StaK k2 5) (e1 : a1.category = 1) (e2 : a2.category = 1) (e3 : a3.category = 1) (e4 : a4.category = 1) (e5 : a5.category = 1) (hst : (st.map fun v => v.category).sum ≤ 8) (h : SemG eV X k2 d 0 (ini k2 [a1, a2, a3, a4, a5]) [] S g) (kk : ∀ q, SemG emb X k (d + 1) pc' ls (st) q (ff q)) : SemG emb X k (d + 1) pc ls (a5 :: a4 :: a3 :: a2 :: a1 :: st) S (g.bind ff) := by
  intro a ha
  obtain ⟨q, hq, ha⟩ := Option.bind_eq_some_iff.mp ha
  exact ev_callSN (As := [a1, a2, a3, a4, a5]) hd hw hk (cat_cons e1 (cat_cons e2 (cat_cons e3 (cat_cons e4 (cat_cons e5 (fun v hv => by cases hv)))))) hst (h q hq) (kk q a ha)
end G
