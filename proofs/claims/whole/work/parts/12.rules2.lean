def bI (b : Bool) : Int32 := if b = true then 1 else 0
theorem bI_narrow (b : Bool) : narrow .boolean (.int (bI b)) = .int (bI b) := by cases b <;> rfl
def eB (q : Bool × St) : Option Value × St := (some (.int (bI q.1)), q.2)
theorem ne32 {x v : Int32} {n : Int} (h : ¬ x = v) (hv : v.toInt = n) : x.toInt ≠ n := fun e => h (Int32.toInt_inj.mp (e.trans hv.symm))
section G2
variable {α : Type} {emb : α → Option Value × St} {X : xC} {k : Mth} {d pc pc' tgt jn : Nat} {ls : List (Option Value)} {st : List Value} {S : St} {f f2 : Option α}
theorem g_zreturn {f : Option (Bool × St)} {v : Int32} {b : Bool} (hd : decode k.2.1 pc = .ok (.ireturn, 1)) (ht : k.2.2.2 = some .boolean) (hv : v = bI b) (hf : f = some (b, S)) : SemG eB X k d pc ls [.int v] S f := by
  subst hf
  subst hv
  intro a h
  cases h
  exact ev_ireturn hd ht (bI_narrow b)
theorem g_fold {x y : Int32} (h : x = y) (kk : SemG emb X k d pc ls (.int y :: st) S f) : SemG emb X k d pc ls (.int x :: st) S f := by
  subst h
  exact kk
theorem g_drop (j : Nat) (kk : SemG emb X k d pc (ls.set j none) st S f) : SemG emb X k d pc ls st S f := by
  intro a ha p l e R s m args below meth c C H locs cells slots hW hS hc hs la hl
  refine kk a ha p l e R s m args below meth c C H locs cells slots hW hS hc hs la ⟨hl.1, fun i v hi => ?_⟩
  by_cases hij : i = j
  · subst hij
    by_cases hlt : i < ls.length
    · rw [List.getElem?_set_self hlt] at hi
      cases hi
    · rw [List.getElem?_eq_none (by simpa using hlt)] at hi
      cases hi
  · rw [List.getElem?_set_ne (Ne.symm hij)] at hi
    exact hl.2 i v hi
theorem g_tcase {dflt lo hi : Int} {offs : Array Int} {len : Nat} {x v : Int32} {off : Int} (hd : decode k.2.1 pc = .ok (.tableswitch dflt lo hi offs, len)) (hx : x = v) (hc : ¬ v.toInt < lo ∧ ¬ hi < v.toInt ∧ offs[(v.toInt - lo).toNat]? = some off ∧ (pc : Int) + off = (tgt : Int)) (kk : SemG emb X k d tgt ls st S f) : SemG emb X k d pc ls (.int x :: st) S f := by
  subst hx
  exact fun a ha => ev_table_in hd hc.1 hc.2.1 hc.2.2.1 hc.2.2.2 (kk a ha)
theorem g_tdef {dflt lo hi : Int} {offs : Array Int} {len : Nat} {x : Int32} (hd : decode k.2.1 pc = .ok (.tableswitch dflt lo hi offs, len)) (h : x.toInt < lo ∨ hi < x.toInt) (ht : (pc : Int) + dflt = (tgt : Int)) (kk : SemG emb X k d tgt ls st S f) : SemG emb X k d pc ls (.int x :: st) S f := fun a ha => ev_table_out hd h ht (kk a ha)
theorem g_lcase {dflt : Int} {ps : Array (Int × Int)} {len : Nat} {x v : Int32} {off : Int} (hd : decode k.2.1 pc = .ok (.lookupswitch dflt ps, len)) (hx : x = v) (hc : (ps.toList.zip (ps.toList.drop 1)).all (fun (a, next) => a.1 < next.1) = true ∧ Op.lookupswitch.offset ps.toList dflt v.toInt = off ∧ (pc : Int) + off = (tgt : Int)) (kk : SemG emb X k d tgt ls st S f) : SemG emb X k d pc ls (.int x :: st) S f := by
  subst hx
  exact fun a ha => ev_lookup hd hc.1 hc.2.1 hc.2.2 (kk a ha)
theorem g_ldef2 {dflt a1 o1 a2 o2 : Int} {len : Nat} {x : Int32} (hd : decode k.2.1 pc = .ok (.lookupswitch dflt #[(a1, o1), (a2, o2)], len)) (h1 : x.toInt ≠ a1) (h2 : x.toInt ≠ a2) (hp : a1 < a2) (ht : (pc : Int) + dflt = (tgt : Int)) (kk : SemG emb X k d tgt ls st S f) : SemG emb X k d pc ls (.int x :: st) S f :=
  fun a ha => ev_lookup hd (by simp [hp]) (by simp [Op.lookupswitch.offset, Ne.symm h1, Ne.symm h2]) ht (kk a ha)
theorem s_icmp_eq {x y : Int32} {off : Int} (hd : dJ k.2.1 pc (.if_icmp .eq off) off pc' tgt) (kt : x = y → SemG emb X k d tgt ls st S f) (kf : ¬ x = y → SemG emb X k d pc' ls st S f2) : SemG emb X k d pc ls (.int y :: .int x :: st) S (if x = y then f else f2) := fun a ha => ev_icmp_eq hd (fun h => kt h a (by rw [if_pos h] at ha; exact ha)) (fun h => kf h a (by rw [if_neg h] at ha; exact ha))
theorem m_icmp_eq {x y : Int32} {v1 v2 : Int32} {off : Int} (hd : dJ k.2.1 pc (.if_icmp .eq off) off pc' tgt) (kt : SemG emb X k d jn ls (.int v1 :: st) S f → SemG emb X k d tgt ls st S f) (kf : SemG emb X k d jn ls (.int v2 :: st) S f → SemG emb X k d pc' ls st S f) (J : SemG emb X k d jn ls (.int (if x = y then v1 else v2) :: st) S f) : SemG emb X k d pc ls (.int y :: .int x :: st) S f := fun a ha => ev_icmp_eq hd (fun h => kt (by rw [if_pos h] at J; exact J) a ha) (fun h => kf (by rw [if_neg h] at J; exact J) a ha)
theorem s_if_eq {x : Int32} {off : Int} (hd : dJ k.2.1 pc (.ifCond .eq off) off pc' tgt) (kt : x = 0 → SemG emb X k d tgt ls st S f) (kf : ¬ x = 0 → SemG emb X k d pc' ls st S f2) : SemG emb X k d pc ls (.int x :: st) S (if x = 0 then f else f2) := fun a ha => ev_if_eq hd (fun h => kt h a (by rw [if_pos h] at ha; exact ha)) (fun h => kf h a (by rw [if_neg h] at ha; exact ha))
theorem m_if_eq {x : Int32} {v1 v2 : Int32} {off : Int} (hd : dJ k.2.1 pc (.ifCond .eq off) off pc' tgt) (kt : SemG emb X k d jn ls (.int v1 :: st) S f → SemG emb X k d tgt ls st S f) (kf : SemG emb X k d jn ls (.int v2 :: st) S f → SemG emb X k d pc' ls st S f) (J : SemG emb X k d jn ls (.int (if x = 0 then v1 else v2) :: st) S f) : SemG emb X k d pc ls (.int x :: st) S f := fun a ha => ev_if_eq hd (fun h => kt (by rw [if_pos h] at J; exact J) a ha) (fun h => kf (by rw [if_neg h] at J; exact J) a ha)
theorem s_icmp_ne {x y : Int32} {off : Int} (hd : dJ k.2.1 pc (.if_icmp .ne off) off pc' tgt) (kt : ¬ x = y → SemG emb X k d tgt ls st S f2) (kf : x = y → SemG emb X k d pc' ls st S f) : SemG emb X k d pc ls (.int y :: .int x :: st) S (if x = y then f else f2) := fun a ha => ev_icmp_ne hd (fun h => kt h a (by rw [if_neg h] at ha; exact ha)) (fun h => kf h a (by rw [if_pos h] at ha; exact ha))
theorem m_icmp_ne {x y : Int32} {v1 v2 : Int32} {off : Int} (hd : dJ k.2.1 pc (.if_icmp .ne off) off pc' tgt) (kt : SemG emb X k d jn ls (.int v2 :: st) S f → SemG emb X k d tgt ls st S f) (kf : SemG emb X k d jn ls (.int v1 :: st) S f → SemG emb X k d pc' ls st S f) (J : SemG emb X k d jn ls (.int (if x = y then v1 else v2) :: st) S f) : SemG emb X k d pc ls (.int y :: .int x :: st) S f := fun a ha => ev_icmp_ne hd (fun h => kt (by rw [if_neg h] at J; exact J) a ha) (fun h => kf (by rw [if_pos h] at J; exact J) a ha)
theorem s_if_ne {x : Int32} {off : Int} (hd : dJ k.2.1 pc (.ifCond .ne off) off pc' tgt) (kt : ¬ x = 0 → SemG emb X k d tgt ls st S f2) (kf : x = 0 → SemG emb X k d pc' ls st S f) : SemG emb X k d pc ls (.int x :: st) S (if x = 0 then f else f2) := fun a ha => ev_if_ne hd (fun h => kt h a (by rw [if_neg h] at ha; exact ha)) (fun h => kf h a (by rw [if_pos h] at ha; exact ha))
theorem m_if_ne {x : Int32} {v1 v2 : Int32} {off : Int} (hd : dJ k.2.1 pc (.ifCond .ne off) off pc' tgt) (kt : SemG emb X k d jn ls (.int v2 :: st) S f → SemG emb X k d tgt ls st S f) (kf : SemG emb X k d jn ls (.int v1 :: st) S f → SemG emb X k d pc' ls st S f) (J : SemG emb X k d jn ls (.int (if x = 0 then v1 else v2) :: st) S f) : SemG emb X k d pc ls (.int x :: st) S f := fun a ha => ev_if_ne hd (fun h => kt (by rw [if_neg h] at J; exact J) a ha) (fun h => kf (by rw [if_pos h] at J; exact J) a ha)
theorem s_icmp_lt {x y : Int32} {off : Int} (hd : dJ k.2.1 pc (.if_icmp .lt off) off pc' tgt) (kt : x < y → SemG emb X k d tgt ls st S f) (kf : ¬ x < y → SemG emb X k d pc' ls st S f2) : SemG emb X k d pc ls (.int y :: .int x :: st) S (if x < y then f else f2) := fun a ha => ev_icmp_lt hd (fun h => kt h a (by rw [if_pos h] at ha; exact ha)) (fun h => kf h a (by rw [if_neg h] at ha; exact ha))
theorem m_icmp_lt {x y : Int32} {v1 v2 : Int32} {off : Int} (hd : dJ k.2.1 pc (.if_icmp .lt off) off pc' tgt) (kt : SemG emb X k d jn ls (.int v1 :: st) S f → SemG emb X k d tgt ls st S f) (kf : SemG emb X k d jn ls (.int v2 :: st) S f → SemG emb X k d pc' ls st S f) (J : SemG emb X k d jn ls (.int (if x < y then v1 else v2) :: st) S f) : SemG emb X k d pc ls (.int y :: .int x :: st) S f := fun a ha => ev_icmp_lt hd (fun h => kt (by rw [if_pos h] at J; exact J) a ha) (fun h => kf (by rw [if_neg h] at J; exact J) a ha)
theorem s_if_lt {x : Int32} {off : Int} (hd : dJ k.2.1 pc (.ifCond .lt off) off pc' tgt) (kt : x < 0 → SemG emb X k d tgt ls st S f) (kf : ¬ x < 0 → SemG emb X k d pc' ls st S f2) : SemG emb X k d pc ls (.int x :: st) S (if x < 0 then f else f2) := fun a ha => ev_if_lt hd (fun h => kt h a (by rw [if_pos h] at ha; exact ha)) (fun h => kf h a (by rw [if_neg h] at ha; exact ha))
theorem m_if_lt {x : Int32} {v1 v2 : Int32} {off : Int} (hd : dJ k.2.1 pc (.ifCond .lt off) off pc' tgt) (kt : SemG emb X k d jn ls (.int v1 :: st) S f → SemG emb X k d tgt ls st S f) (kf : SemG emb X k d jn ls (.int v2 :: st) S f → SemG emb X k d pc' ls st S f) (J : SemG emb X k d jn ls (.int (if x < 0 then v1 else v2) :: st) S f) : SemG emb X k d pc ls (.int x :: st) S f := fun a ha => ev_if_lt hd (fun h => kt (by rw [if_pos h] at J; exact J) a ha) (fun h => kf (by rw [if_neg h] at J; exact J) a ha)
theorem s_icmp_ge {x y : Int32} {off : Int} (hd : dJ k.2.1 pc (.if_icmp .ge off) off pc' tgt) (kt : y ≤ x → SemG emb X k d tgt ls st S f) (kf : ¬ y ≤ x → SemG emb X k d pc' ls st S f2) : SemG emb X k d pc ls (.int y :: .int x :: st) S (if y ≤ x then f else f2) := fun a ha => ev_icmp_ge hd (fun h => kt h a (by rw [if_pos h] at ha; exact ha)) (fun h => kf h a (by rw [if_neg h] at ha; exact ha))
theorem m_icmp_ge {x y : Int32} {v1 v2 : Int32} {off : Int} (hd : dJ k.2.1 pc (.if_icmp .ge off) off pc' tgt) (kt : SemG emb X k d jn ls (.int v1 :: st) S f → SemG emb X k d tgt ls st S f) (kf : SemG emb X k d jn ls (.int v2 :: st) S f → SemG emb X k d pc' ls st S f) (J : SemG emb X k d jn ls (.int (if y ≤ x then v1 else v2) :: st) S f) : SemG emb X k d pc ls (.int y :: .int x :: st) S f := fun a ha => ev_icmp_ge hd (fun h => kt (by rw [if_pos h] at J; exact J) a ha) (fun h => kf (by rw [if_neg h] at J; exact J) a ha)
theorem s_if_ge {x : Int32} {off : Int} (hd : dJ k.2.1 pc (.ifCond .ge off) off pc' tgt) (kt : 0 ≤ x → SemG emb X k d tgt ls st S f) (kf : ¬ 0 ≤ x → SemG emb X k d pc' ls st S f2) : SemG emb X k d pc ls (.int x :: st) S (if 0 ≤ x then f else f2) := fun a ha => ev_if_ge hd (fun h => kt h a (by rw [if_pos h] at ha; exact ha)) (fun h => kf h a (by rw [if_neg h] at ha; exact ha))
theorem m_if_ge {x : Int32} {v1 v2 : Int32} {off : Int} (hd : dJ k.2.1 pc (.ifCond .ge off) off pc' tgt) (kt : SemG emb X k d jn ls (.int v1 :: st) S f → SemG emb X k d tgt ls st S f) (kf : SemG emb X k d jn ls (.int v2 :: st) S f → SemG emb X k d pc' ls st S f) (J : SemG emb X k d jn ls (.int (if 0 ≤ x then v1 else v2) :: st) S f) : SemG emb X k d pc ls (.int x :: st) S f := fun a ha => ev_if_ge hd (fun h => kt (by rw [if_pos h] at J; exact J) a ha) (fun h => kf (by rw [if_neg h] at J; exact J) a ha)
theorem s_icmp_gt {x y : Int32} {off : Int} (hd : dJ k.2.1 pc (.if_icmp .gt off) off pc' tgt) (kt : y < x → SemG emb X k d tgt ls st S f) (kf : ¬ y < x → SemG emb X k d pc' ls st S f2) : SemG emb X k d pc ls (.int y :: .int x :: st) S (if y < x then f else f2) := fun a ha => ev_icmp_gt hd (fun h => kt h a (by rw [if_pos h] at ha; exact ha)) (fun h => kf h a (by rw [if_neg h] at ha; exact ha))
theorem m_icmp_gt {x y : Int32} {v1 v2 : Int32} {off : Int} (hd : dJ k.2.1 pc (.if_icmp .gt off) off pc' tgt) (kt : SemG emb X k d jn ls (.int v1 :: st) S f → SemG emb X k d tgt ls st S f) (kf : SemG emb X k d jn ls (.int v2 :: st) S f → SemG emb X k d pc' ls st S f) (J : SemG emb X k d jn ls (.int (if y < x then v1 else v2) :: st) S f) : SemG emb X k d pc ls (.int y :: .int x :: st) S f := fun a ha => ev_icmp_gt hd (fun h => kt (by rw [if_pos h] at J; exact J) a ha) (fun h => kf (by rw [if_neg h] at J; exact J) a ha)
theorem s_if_gt {x : Int32} {off : Int} (hd : dJ k.2.1 pc (.ifCond .gt off) off pc' tgt) (kt : 0 < x → SemG emb X k d tgt ls st S f) (kf : ¬ 0 < x → SemG emb X k d pc' ls st S f2) : SemG emb X k d pc ls (.int x :: st) S (if 0 < x then f else f2) := fun a ha => ev_if_gt hd (fun h => kt h a (by rw [if_pos h] at ha; exact ha)) (fun h => kf h a (by rw [if_neg h] at ha; exact ha))
theorem m_if_gt {x : Int32} {v1 v2 : Int32} {off : Int} (hd : dJ k.2.1 pc (.ifCond .gt off) off pc' tgt) (kt : SemG emb X k d jn ls (.int v1 :: st) S f → SemG emb X k d tgt ls st S f) (kf : SemG emb X k d jn ls (.int v2 :: st) S f → SemG emb X k d pc' ls st S f) (J : SemG emb X k d jn ls (.int (if 0 < x then v1 else v2) :: st) S f) : SemG emb X k d pc ls (.int x :: st) S f := fun a ha => ev_if_gt hd (fun h => kt (by rw [if_pos h] at J; exact J) a ha) (fun h => kf (by rw [if_neg h] at J; exact J) a ha)
theorem s_icmp_le {x y : Int32} {off : Int} (hd : dJ k.2.1 pc (.if_icmp .le off) off pc' tgt) (kt : x ≤ y → SemG emb X k d tgt ls st S f) (kf : ¬ x ≤ y → SemG emb X k d pc' ls st S f2) : SemG emb X k d pc ls (.int y :: .int x :: st) S (if x ≤ y then f else f2) := fun a ha => ev_icmp_le hd (fun h => kt h a (by rw [if_pos h] at ha; exact ha)) (fun h => kf h a (by rw [if_neg h] at ha; exact ha))
theorem m_icmp_le {x y : Int32} {v1 v2 : Int32} {off : Int} (hd : dJ k.2.1 pc (.if_icmp .le off) off pc' tgt) (kt : SemG emb X k d jn ls (.int v1 :: st) S f → SemG emb X k d tgt ls st S f) (kf : SemG emb X k d jn ls (.int v2 :: st) S f → SemG emb X k d pc' ls st S f) (J : SemG emb X k d jn ls (.int (if x ≤ y then v1 else v2) :: st) S f) : SemG emb X k d pc ls (.int y :: .int x :: st) S f := fun a ha => ev_icmp_le hd (fun h => kt (by rw [if_pos h] at J; exact J) a ha) (fun h => kf (by rw [if_neg h] at J; exact J) a ha)
theorem s_if_le {x : Int32} {off : Int} (hd : dJ k.2.1 pc (.ifCond .le off) off pc' tgt) (kt : x ≤ 0 → SemG emb X k d tgt ls st S f) (kf : ¬ x ≤ 0 → SemG emb X k d pc' ls st S f2) : SemG emb X k d pc ls (.int x :: st) S (if x ≤ 0 then f else f2) := fun a ha => ev_if_le hd (fun h => kt h a (by rw [if_pos h] at ha; exact ha)) (fun h => kf h a (by rw [if_neg h] at ha; exact ha))
theorem m_if_le {x : Int32} {v1 v2 : Int32} {off : Int} (hd : dJ k.2.1 pc (.ifCond .le off) off pc' tgt) (kt : SemG emb X k d jn ls (.int v1 :: st) S f → SemG emb X k d tgt ls st S f) (kf : SemG emb X k d jn ls (.int v2 :: st) S f → SemG emb X k d pc' ls st S f) (J : SemG emb X k d jn ls (.int (if x ≤ 0 then v1 else v2) :: st) S f) : SemG emb X k d pc ls (.int x :: st) S f := fun a ha => ev_if_le hd (fun h => kt (by rw [if_pos h] at J; exact J) a ha) (fun h => kf (by rw [if_neg h] at J; exact J) a ha)
theorem g_callV0B {k2 : Mth} {idx c ci : Nat} {fs : List (Option Nat)} {g : Option (Bool × St)} {ff : (Bool × St) → Option α} (hd : dI k.2.1 pc (.invokevirtual idx) 3 pc') (hw : Cond.methodLink k.1.cls idx k2.1 ∈ TG) (hk : VirK k2 0) (hc : lay[c]? = some (.inr (.inr (ci, fs)))) (hv : VcK ci k2)  (hst : (st.map fun v => v.category).sum ≤ 8) (h : SemG eB X k2 d 0 (ini k2 (.ref (xB X + c) :: [])) [] S g) (kk : ∀ q, SemG emb X k (d + 1) pc' ls (.int (bI q.1) :: st) q.2 (ff q)) : SemG emb X k (d + 1) pc ls (.ref (xB X + c) :: st) S (g.bind ff) := by
  intro a ha
  obtain ⟨q, hq, ha⟩ := Option.bind_eq_some_iff.mp ha
  obtain ⟨qc, h1, h2⟩ := hv
  exact ev_callV (As := []) hd hw hk (mkM_obj hc) h1 h2 (fun v hv => by cases hv) hst (h q hq) (kk q a ha)
theorem g_callS0B {k2 : Mth} {idx : Nat} {g : Option (Bool × St)} {ff : (Bool × St) → Option α} (hd : dI k.2.1 pc (.invokestatic idx) 3 pc') (hw : Cond.methodLink k.1.cls idx k2.1 ∈ TG) (hk : StaK k2 0)  (hst : (st.map fun v => v.category).sum ≤ 8) (h : SemG eB X k2 d 0 (ini k2 []) [] S g) (kk : ∀ q, SemG emb X k (d + 1) pc' ls (.int (bI q.1) :: st) q.2 (ff q)) : SemG emb X k (d + 1) pc ls (st) S (g.bind ff) := by
  intro a ha
  obtain ⟨q, hq, ha⟩ := Option.bind_eq_some_iff.mp ha
  exact ev_callS (As := []) hd hw hk (fun v hv => by cases hv) hst (h q hq) (kk q a ha)
theorem g_callN0B {k2 : Mth} {idx : Nat} {g : Option (Bool × St)} {ff : (Bool × St) → Option α} (hd : dI k.2.1 pc (.invokestatic idx) 3 pc') {host : String} (hw : (k.1.cls, idx, k2.1, host) ∈ nests) (hk : StaK k2 0)  (hst : (st.map fun v => v.category).sum ≤ 8) (h : SemG eB X k2 d 0 (ini k2 []) [] S g) (kk : ∀ q, SemG emb X k (d + 1) pc' ls (.int (bI q.1) :: st) q.2 (ff q)) : SemG emb X k (d + 1) pc ls (st) S (g.bind ff) := by
  intro a ha
  obtain ⟨q, hq, ha⟩ := Option.bind_eq_some_iff.mp ha
  exact ev_callSN (As := []) hd hw hk (fun v hv => by cases hv) hst (h q hq) (kk q a ha)
theorem g_callV1B {a1 : Value} {k2 : Mth} {idx c ci : Nat} {fs : List (Option Nat)} {g : Option (Bool × St)} {ff : (Bool × St) → Option α} (hd : dI k.2.1 pc (.invokevirtual idx) 3 pc') (hw : Cond.methodLink k.1.cls idx k2.1 ∈ TG) (hk : VirK k2 1) (hc : lay[c]? = some (.inr (.inr (ci, fs)))) (hv : VcK ci k2) (e1 : a1.category = 1) (hst : (st.map fun v => v.category).sum ≤ 8) (h : SemG eB X k2 d 0 (ini k2 (.ref (xB X + c) :: [a1])) [] S g) (kk : ∀ q, SemG emb X k (d + 1) pc' ls (.int (bI q.1) :: st) q.2 (ff q)) : SemG emb X k (d + 1) pc ls (a1 :: .ref (xB X + c) :: st) S (g.bind ff) := by
  intro a ha
  obtain ⟨q, hq, ha⟩ := Option.bind_eq_some_iff.mp ha
  obtain ⟨qc, h1, h2⟩ := hv
  exact ev_callV (As := [a1]) hd hw hk (mkM_obj hc) h1 h2 (cat_cons e1 (fun v hv => by cases hv)) hst (h q hq) (kk q a ha)
theorem g_callS1B {a1 : Value} {k2 : Mth} {idx : Nat} {g : Option (Bool × St)} {ff : (Bool × St) → Option α} (hd : dI k.2.1 pc (.invokestatic idx) 3 pc') (hw : Cond.methodLink k.1.cls idx k2.1 ∈ TG) (hk : StaK k2 1) (e1 : a1.category = 1) (hst : (st.map fun v => v.category).sum ≤ 8) (h : SemG eB X k2 d 0 (ini k2 [a1]) [] S g) (kk : ∀ q, SemG emb X k (d + 1) pc' ls (.int (bI q.1) :: st) q.2 (ff q)) : SemG emb X k (d + 1) pc ls (a1 :: st) S (g.bind ff) := by
  intro a ha
  obtain ⟨q, hq, ha⟩ := Option.bind_eq_some_iff.mp ha
  exact ev_callS (As := [a1]) hd hw hk (cat_cons e1 (fun v hv => by cases hv)) hst (h q hq) (kk q a ha)
theorem g_callN1B {a1 : Value} {k2 : Mth} {idx : Nat} {g : Option (Bool × St)} {ff : (Bool × St) → Option α} (hd : dI k.2.1 pc (.invokestatic idx) 3 pc') {host : String} (hw : (k.1.cls, idx, k2.1, host) ∈ nests) (hk : StaK k2 1) (e1 : a1.category = 1) (hst : (st.map fun v => v.category).sum ≤ 8) (h : SemG eB X k2 d 0 (ini k2 [a1]) [] S g) (kk : ∀ q, SemG emb X k (d + 1) pc' ls (.int (bI q.1) :: st) q.2 (ff q)) : SemG emb X k (d + 1) pc ls (a1 :: st) S (g.bind ff) := by
  intro a ha
  obtain ⟨q, hq, ha⟩ := Option.bind_eq_some_iff.mp ha
  exact ev_callSN (As := [a1]) hd hw hk (cat_cons e1 (fun v hv => by cases hv)) hst (h q hq) (kk q a ha)
theorem g_callV2B {a1 a2 : Value} {k2 : Mth} {idx c ci : Nat} {fs : List (Option Nat)} {g : Option (Bool × St)} {ff : (Bool × St) → Option α} (hd : dI k.2.1 pc (.invokevirtual idx) 3 pc') (hw : Cond.methodLink k.1.cls idx k2.1 ∈ TG) (hk : VirK k2 2) (hc : lay[c]? = some (.inr (.inr (ci, fs)))) (hv : VcK ci k2) (e1 : a1.category = 1) (e2 : a2.category = 1) (hst : (st.map fun v => v.category).sum ≤ 8) (h : SemG eB X k2 d 0 (ini k2 (.ref (xB X + c) :: [a1, a2])) [] S g) (kk : ∀ q, SemG emb X k (d + 1) pc' ls (.int (bI q.1) :: st) q.2 (ff q)) : SemG emb X k (d + 1) pc ls (a2 :: a1 :: .ref (xB X + c) :: st) S (g.bind ff) := by
  intro a ha
  obtain ⟨q, hq, ha⟩ := Option.bind_eq_some_iff.mp ha
  obtain ⟨qc, h1, h2⟩ := hv
  exact ev_callV (As := [a1, a2]) hd hw hk (mkM_obj hc) h1 h2 (cat_cons e1 (cat_cons e2 (fun v hv => by cases hv))) hst (h q hq) (kk q a ha)
theorem g_callS2B {a1 a2 : Value} {k2 : Mth} {idx : Nat} {g : Option (Bool × St)} {ff : (Bool × St) → Option α} (hd : dI k.2.1 pc (.invokestatic idx) 3 pc') (hw : Cond.methodLink k.1.cls idx k2.1 ∈ TG) (hk : StaK k2 2) (e1 : a1.category = 1) (e2 : a2.category = 1) (hst : (st.map fun v => v.category).sum ≤ 8) (h : SemG eB X k2 d 0 (ini k2 [a1, a2]) [] S g) (kk : ∀ q, SemG emb X k (d + 1) pc' ls (.int (bI q.1) :: st) q.2 (ff q)) : SemG emb X k (d + 1) pc ls (a2 :: a1 :: st) S (g.bind ff) := by
  intro a ha
  obtain ⟨q, hq, ha⟩ := Option.bind_eq_some_iff.mp ha
  exact ev_callS (As := [a1, a2]) hd hw hk (cat_cons e1 (cat_cons e2 (fun v hv => by cases hv))) hst (h q hq) (kk q a ha)
theorem g_callN2B {a1 a2 : Value} {k2 : Mth} {idx : Nat} {g : Option (Bool × St)} {ff : (Bool × St) → Option α} (hd : dI k.2.1 pc (.invokestatic idx) 3 pc') {host : String} (hw : (k.1.cls, idx, k2.1, host) ∈ nests) (hk : StaK k2 2) (e1 : a1.category = 1) (e2 : a2.category = 1) (hst : (st.map fun v => v.category).sum ≤ 8) (h : SemG eB X k2 d 0 (ini k2 [a1, a2]) [] S g) (kk : ∀ q, SemG emb X k (d + 1) pc' ls (.int (bI q.1) :: st) q.2 (ff q)) : SemG emb X k (d + 1) pc ls (a2 :: a1 :: st) S (g.bind ff) := by
  intro a ha
  obtain ⟨q, hq, ha⟩ := Option.bind_eq_some_iff.mp ha
  exact ev_callSN (As := [a1, a2]) hd hw hk (cat_cons e1 (cat_cons e2 (fun v hv => by cases hv))) hst (h q hq) (kk q a ha)
theorem g_callV3B {a1 a2 a3 : Value} {k2 : Mth} {idx c ci : Nat} {fs : List (Option Nat)} {g : Option (Bool × St)} {ff : (Bool × St) → Option α} (hd : dI k.2.1 pc (.invokevirtual idx) 3 pc') (hw : Cond.methodLink k.1.cls idx k2.1 ∈ TG) (hk : VirK k2 3) (hc : lay[c]? = some (.inr (.inr (ci, fs)))) (hv : VcK ci k2) (e1 : a1.category = 1) (e2 : a2.category = 1) (e3 : a3.category = 1) (hst : (st.map fun v => v.category).sum ≤ 8) (h : SemG eB X k2 d 0 (ini k2 (.ref (xB X + c) :: [a1, a2, a3])) [] S g) (kk : ∀ q, SemG emb X k (d + 1) pc' ls (.int (bI q.1) :: st) q.2 (ff q)) : SemG emb X k (d + 1) pc ls (a3 :: a2 :: a1 :: .ref (xB X + c) :: st) S (g.bind ff) := by
  intro a ha
  obtain ⟨q, hq, ha⟩ := Option.bind_eq_some_iff.mp ha
  obtain ⟨qc, h1, h2⟩ := hv
  exact ev_callV (As := [a1, a2, a3]) hd hw hk (mkM_obj hc) h1 h2 (cat_cons e1 (cat_cons e2 (cat_cons e3 (fun v hv => by cases hv)))) hst (h q hq) (kk q a ha)
theorem g_callS3B {a1 a2 a3 : Value} {k2 : Mth} {idx : Nat} {g : Option (Bool × St)} {ff : (Bool × St) → Option α} (hd : dI k.2.1 pc (.invokestatic idx) 3 pc') (hw : Cond.methodLink k.1.cls idx k2.1 ∈ TG) (hk : StaK k2 3) (e1 : a1.category = 1) (e2 : a2.category = 1) (e3 : a3.category = 1) (hst : (st.map fun v => v.category).sum ≤ 8) (h : SemG eB X k2 d 0 (ini k2 [a1, a2, a3]) [] S g) (kk : ∀ q, SemG emb X k (d + 1) pc' ls (.int (bI q.1) :: st) q.2 (ff q)) : SemG emb X k (d + 1) pc ls (a3 :: a2 :: a1 :: st) S (g.bind ff) := by
  intro a ha
  obtain ⟨q, hq, ha⟩ := Option.bind_eq_some_iff.mp ha
  exact ev_callS (As := [a1, a2, a3]) hd hw hk (cat_cons e1 (cat_cons e2 (cat_cons e3 (fun v hv => by cases hv)))) hst (h q hq) (kk q a ha)
theorem g_callN3B {a1 a2 a3 : Value} {k2 : Mth} {idx : Nat} {g : Option (Bool × St)} {ff : (Bool × St) → Option α} (hd : dI k.2.1 pc (.invokestatic idx) 3 pc') {host : String} (hw : (k.1.cls, idx, k2.1, host) ∈ nests) (hk : StaK k2 3) (e1 : a1.category = 1) (e2 : a2.category = 1) (e3 : a3.category = 1) (hst : (st.map fun v => v.category).sum ≤ 8) (h : SemG eB X k2 d 0 (ini k2 [a1, a2, a3]) [] S g) (kk : ∀ q, SemG emb X k (d + 1) pc' ls (.int (bI q.1) :: st) q.2 (ff q)) : SemG emb X k (d + 1) pc ls (a3 :: a2 :: a1 :: st) S (g.bind ff) := by
  intro a ha
  obtain ⟨q, hq, ha⟩ := Option.bind_eq_some_iff.mp ha
  exact ev_callSN (As := [a1, a2, a3]) hd hw hk (cat_cons e1 (cat_cons e2 (cat_cons e3 (fun v hv => by cases hv)))) hst (h q hq) (kk q a ha)
theorem g_callV4B {a1 a2 a3 a4 : Value} {k2 : Mth} {idx c ci : Nat} {fs : List (Option Nat)} {g : Option (Bool × St)} {ff : (Bool × St) → Option α} (hd : dI k.2.1 pc (.invokevirtual idx) 3 pc') (hw : Cond.methodLink k.1.cls idx k2.1 ∈ TG) (hk : VirK k2 4) (hc : lay[c]? = some (.inr (.inr (ci, fs)))) (hv : VcK ci k2) (e1 : a1.category = 1) (e2 : a2.category = 1) (e3 : a3.category = 1) (e4 : a4.category = 1) (hst : (st.map fun v => v.category).sum ≤ 8) (h : SemG eB X k2 d 0 (ini k2 (.ref (xB X + c) :: [a1, a2, a3, a4])) [] S g) (kk : ∀ q, SemG emb X k (d + 1) pc' ls (.int (bI q.1) :: st) q.2 (ff q)) : SemG emb X k (d + 1) pc ls (a4 :: a3 :: a2 :: a1 :: .ref (xB X + c) :: st) S (g.bind ff) := by
  intro a ha
  obtain ⟨q, hq, ha⟩ := Option.bind_eq_some_iff.mp ha
  obtain ⟨qc, h1, h2⟩ := hv
  exact ev_callV (As := [a1, a2, a3, a4]) hd hw hk (mkM_obj hc) h1 h2 (cat_cons e1 (cat_cons e2 (cat_cons e3 (cat_cons e4 (fun v hv => by cases hv))))) hst (h q hq) (kk q a ha)
theorem g_callS4B {a1 a2 a3 a4 : Value} {k2 : Mth} {idx : Nat} {g : Option (Bool × St)} {ff : (Bool × St) → Option α} (hd : dI k.2.1 pc (.invokestatic idx) 3 pc') (hw : Cond.methodLink k.1.cls idx k2.1 ∈ TG) (hk : StaK k2 4) (e1 : a1.category = 1) (e2 : a2.category = 1) (e3 : a3.category = 1) (e4 : a4.category = 1) (hst : (st.map fun v => v.category).sum ≤ 8) (h : SemG eB X k2 d 0 (ini k2 [a1, a2, a3, a4]) [] S g) (kk : ∀ q, SemG emb X k (d + 1) pc' ls (.int (bI q.1) :: st) q.2 (ff q)) : SemG emb X k (d + 1) pc ls (a4 :: a3 :: a2 :: a1 :: st) S (g.bind ff) := by
  intro a ha
  obtain ⟨q, hq, ha⟩ := Option.bind_eq_some_iff.mp ha
  exact ev_callS (As := [a1, a2, a3, a4]) hd hw hk (cat_cons e1 (cat_cons e2 (cat_cons e3 (cat_cons e4 (fun v hv => by cases hv))))) hst (h q hq) (kk q a ha)
theorem g_callN4B {a1 a2 a3 a4 : Value} {k2 : Mth} {idx : Nat} {g : Option (Bool × St)} {ff : (Bool × St) → Option α} (hd : dI k.2.1 pc (.invokestatic idx) 3 pc') {host : String} (hw : (k.1.cls, idx, k2.1, host) ∈ nests) (hk : StaK k2 4) (e1 : a1.category = 1) (e2 : a2.category = 1) (e3 : a3.category = 1) (e4 : a4.category = 1) (hst : (st.map fun v => v.category).sum ≤ 8) (h : SemG eB X k2 d 0 (ini k2 [a1, a2, a3, a4]) [] S g) (kk : ∀ q, SemG emb X k (d + 1) pc' ls (.int (bI q.1) :: st) q.2 (ff q)) : SemG emb X k (d + 1) pc ls (a4 :: a3 :: a2 :: a1 :: st) S (g.bind ff) := by
  intro a ha
  obtain ⟨q, hq, ha⟩ := Option.bind_eq_some_iff.mp ha
  exact ev_callSN (As := [a1, a2, a3, a4]) hd hw hk (cat_cons e1 (cat_cons e2 (cat_cons e3 (cat_cons e4 (fun v hv => by cases hv))))) hst (h q hq) (kk q a ha)
theorem g_callV5B {a1 a2 a3 a4 a5 : Value} {k2 : Mth} {idx c ci : Nat} {fs : List (Option Nat)} {g : Option (Bool × St)} {ff : (Bool × St) → Option α} (hd : dI k.2.1 pc (.invokevirtual idx) 3 pc') (hw : Cond.methodLink k.1.cls idx k2.1 ∈ TG) (hk : VirK k2 5) (hc : lay[c]? = some (.inr (.inr (ci, fs)))) (hv : VcK ci k2) (e1 : a1.category = 1) (e2 : a2.category = 1) (e3 : a3.category = 1) (e4 : a4.category = 1) (e5 : a5.category = 1) (hst : (st.map fun v => v.category).sum ≤ 8) (h : SemG eB X k2 d 0 (ini k2 (.ref (xB X + c) :: [a1, a2, a3, a4, a5])) [] S g) (kk : ∀ q, SemG emb X k (d + 1) pc' ls (.int (bI q.1) :: st) q.2 (ff q)) : SemG emb X k (d + 1) pc ls (a5 :: a4 :: a3 :: a2 :: a1 :: .ref (xB X + c) :: st) S (g.bind ff) := by
  intro a ha
  obtain ⟨q, hq, ha⟩ := Option.bind_eq_some_iff.mp ha
  obtain ⟨qc, h1, h2⟩ := hv
  exact ev_callV (As := [a1, a2, a3, a4, a5]) hd hw hk (mkM_obj hc) h1 h2 (cat_cons e1 (cat_cons e2 (cat_cons e3 (cat_cons e4 (cat_cons e5 (fun v hv => by cases hv)))))) hst (h q hq) (kk q a ha)
theorem g_callS5B {a1 a2 a3 a4 a5 : Value} {k2 : Mth} {idx : Nat} {g : Option (Bool × St)} {ff : (Bool × St) → Option α} (hd : dI k.2.1 pc (.invokestatic idx) 3 pc') (hw : Cond.methodLink k.1.cls idx k2.1 ∈ TG) (hk : StaK k2 5) (e1 : a1.category = 1) (e2 : a2.category = 1) (e3 : a3.category = 1) (e4 : a4.category = 1) (e5 : a5.category = 1) (hst : (st.map fun v => v.category).sum ≤ 8) (h : SemG eB X k2 d 0 (ini k2 [a1, a2, a3, a4, a5]) [] S g) (kk : ∀ q, SemG emb X k (d + 1) pc' ls (.int (bI q.1) :: st) q.2 (ff q)) : SemG emb X k (d + 1) pc ls (a5 :: a4 :: a3 :: a2 :: a1 :: st) S (g.bind ff) := by
  intro a ha
  obtain ⟨q, hq, ha⟩ := Option.bind_eq_some_iff.mp ha
  exact ev_callS (As := [a1, a2, a3, a4, a5]) hd hw hk (cat_cons e1 (cat_cons e2 (cat_cons e3 (cat_cons e4 (cat_cons e5 (fun v hv => by cases hv)))))) hst (h q hq) (kk q a ha)
theorem g_callN5B {a1 a2 a3 a4 a5 : Value} {k2 : Mth} {idx : Nat} {g : Option (Bool × St)} {ff : (Bool × St) → Option α} (hd : dI k.2.1 pc (.invokestatic idx) 3 pc') {host : String} (hw : (k.1.cls, idx, k2.1, host) ∈ nests) (hk : StaK k2 5) (e1 : a1.category = 1) (e2 : a2.category = 1) (e3 : a3.category = 1) (e4 : a4.category = 1) (e5 : a5.category = 1) (hst : (st.map fun v => v.category).sum ≤ 8) (h : SemG eB X k2 d 0 (ini k2 [a1, a2, a3, a4, a5]) [] S g) (kk : ∀ q, SemG emb X k (d + 1) pc' ls (.int (bI q.1) :: st) q.2 (ff q)) : SemG emb X k (d + 1) pc ls (a5 :: a4 :: a3 :: a2 :: a1 :: st) S (g.bind ff) := by
  intro a ha
  obtain ⟨q, hq, ha⟩ := Option.bind_eq_some_iff.mp ha
  exact ev_callSN (As := [a1, a2, a3, a4, a5]) hd hw hk (cat_cons e1 (cat_cons e2 (cat_cons e3 (cat_cons e4 (cat_cons e5 (fun v hv => by cases hv)))))) hst (h q hq) (kk q a ha)
end G2
theorem sh_at : ∀ j : Nat, j < 4 → ([37, 39, 41, 43] : List Nat)[j]? = some (37 + 2 * j) ∧ lay[37 + 2 * j]? = some (.inr (.inr (3, [some (38 + 2 * j), none, none]))) ∧ lay[38 + 2 * j]? = some (.inl 40)
  | 0, _ => ⟨rfl, rfl, rfl⟩
  | 1, _ => ⟨rfl, rfl, rfl⟩
  | 2, _ => ⟨rfl, rfl, rfl⟩
  | 3, _ => ⟨rfl, rfl, rfl⟩
  | n + 4, h => absurd h (by omega)
theorem be_at : ∀ j : Nat, j < 4 → ([26, 28, 30, 32] : List Nat)[j]? = some (26 + 2 * j) ∧ lay[26 + 2 * j]? = some (.inr (.inr (0, [some 3, some (27 + 2 * j)]))) ∧ lay[27 + 2 * j]? = some (.inl 10)
  | 0, _ => ⟨rfl, rfl, rfl⟩
  | 1, _ => ⟨rfl, rfl, rfl⟩
  | 2, _ => ⟨rfl, rfl, rfl⟩
  | 3, _ => ⟨rfl, rfl, rfl⟩
  | n + 4, h => absurd h (by omega)
theorem inb_lt {i : Int32} {n : Nat} (h : inb i n = true) : i.toNatClampNeg < n := Nat.not_le.mp fun q => inb_in h (Or.inr q)
theorem d_JA_fill_0 : dI prog_14_method_103_code 0 (.iconst 0) 1 1 ∧ Int32.ofInt 0 = 0 := by decide +kernel
theorem d_JA_fill_1 : dI prog_14_method_103_code 1 (.istore_n 2) 1 2 := by decide +kernel
theorem d_JA_fill_2 : dI prog_14_method_103_code 2 (.aload_n 0) 1 3 := by decide +kernel
theorem d_JA_fill_3 : dI prog_14_method_103_code 3 .arraylength 1 4 := by decide +kernel
theorem d_JA_fill_4 : dI prog_14_method_103_code 4 (.istore_n 3) 1 5 := by decide +kernel
theorem d_JA_fill_5 : dI prog_14_method_103_code 5 (.iload_n 2) 1 6 := by decide +kernel
theorem d_JA_fill_6 : dI prog_14_method_103_code 6 (.iload_n 3) 1 7 := by decide +kernel
theorem d_JA_fill_7 : dJ prog_14_method_103_code 7 (.if_icmp .ge 13) 13 10 20 := by decide +kernel
theorem d_JA_fill_10 : dI prog_14_method_103_code 10 (.aload_n 0) 1 11 := by decide +kernel
theorem d_JA_fill_11 : dI prog_14_method_103_code 11 (.iload_n 2) 1 12 := by decide +kernel
theorem d_JA_fill_12 : dI prog_14_method_103_code 12 (.iload_n 1) 1 13 := by decide +kernel
theorem d_JA_fill_13 : dI prog_14_method_103_code 13 .iastore 1 14 := by decide +kernel
theorem d_JA_fill_14 : dI prog_14_method_103_code 14 (.iinc 2 1) 3 17 ∧ Int32.ofInt 1 = 1 := by decide +kernel
theorem d_JA_fill_17 : dJ prog_14_method_103_code 17 (.goto (-12)) (-12) 20 5 := by decide +kernel
theorem d_JA_fill_20 : decode prog_14_method_103_code 20 = .ok (.return_, 1) := by decide +kernel
