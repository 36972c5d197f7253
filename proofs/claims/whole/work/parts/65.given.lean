/-! ===== what the Statement gives of the texts ===== -/
abbrev gvL : List Cond := flatC (Jvm.Cond.and given_1 narrow_1)
def tmT (j : Nat) : Term := .string "SandLorry$Tape" (116 + 2 * j)
def mK : List Nat := [192, 194, 196, 198, 200, 202, 204, 206, 170, 179, 181, 183, 185, 187]
def tmM (j : Nat) : Term := .string "SandLorryModel" (mK.getD j 0)
theorem wn9 : ∀ j : Fin 14, wn j.val ≤ 9 := by decide +kernel
theorem gv_cs : Cond.eq (.static "java/lang/String" "COMPACT_STRINGS" "Z") (.int 1) ∈ gvL := by decide +kernel
theorem gv_sf : Cond.isRef (.static "jdk/internal/util/Preconditions" "SIOOBE_FORMATTER" "Ljava/util/function/BiFunction;") ∈ gvL := by decide +kernel
theorem gv_ex : ∀ j : Fin 14, Cond.exactly (tmT j.val) "java/lang/String" ∈ gvL := by decide +kernel
theorem gv_co : ∀ j : Fin 14, Cond.eq (.field (tmT j.val) "java/lang/String" "coder" "B") (.int 0) ∈ gvL := by decide +kernel
theorem gv_ar : ∀ j : Fin 14, Cond.arrayOf (.field (tmT j.val) "java/lang/String" "value" "[B") .byte ∈ gvL := by decide +kernel
theorem gv_le : ∀ j : Fin 14, Cond.eq (.length (.field (tmT j.val) "java/lang/String" "value" "[B")) (.int (Int32.ofNat (wn j.val))) ∈ gvL := by decide +kernel
theorem gv_el : ∀ j : Fin 14, ∀ i : Fin 9, i.val < wn j.val → Cond.eq (.elem (.field (tmT j.val) "java/lang/String" "value" "[B") (.int (Int32.ofNat i.val))) (.int (wc j.val i.val)) ∈ gvL := by decide +kernel
theorem gv_eq : ∀ j : Fin 14, Cond.eq (tmT j.val) (tmM j.val) ∈ gvL := by decide +kernel
theorem str_at {args : Array Value} {s : State} {A : Nat → Prop} (h : (Jvm.Cond.and given_1 narrow_1).before args s = true) (hA : ∀ a : Nat, a < s.heap.size → ¬ A a) (j : Nat) : ∃ q : Nat × Nat, j < 14 → (tmT j).eval args s none [] s = some (.ref q.1) ∧ va_O "java/lang/String" q.1 A s s.heap ∧ va_OF "java/lang/String" "coder" "B" (.int 0) q.1 A s s.heap ∧ va_OF "java/lang/String" "value" "[B" (.ref q.2) q.1 A s s.heap ∧ va_T .byte q.2 (wn j) (fun i => .int (wc j i)) A s s.heap := by
  by_cases hj : j < 14
  · have hs := flat_of_before _ h
    have hn := wn9 ⟨j, hj⟩
    dsimp only at hn
    obtain ⟨a, c, cA, kA, q1, q2, q3, q4, q5, q6, -⟩ := Cond.exactly_spec (args := args) (first := s) (o := none) (s := s) (idx := []) (t := tmT j) (cls := "java/lang/String") (hs _ (gv_ex ⟨j, hj⟩))
    obtain ⟨t, ht, hT⟩ := va_Tof (f := fun i => .int (wc j i)) (A := A) (N := wn j) (by omega) (hs _ (gv_ar ⟨j, hj⟩)) (va_eqt (hs _ (gv_le ⟨j, hj⟩))) (fun i hi => va_eqt (hs _ (gv_el ⟨j, hj⟩ ⟨i, by omega⟩ hi))) hA
    exact ⟨(a, t), fun _ => ⟨q1, ⟨cA, q3, q5, by rw [q6]; exact q2, hA a (Array.getElem?_eq_some_iff.mp q3).1⟩, vk_OFof q1 (va_eqt (hs _ (gv_co ⟨j, hj⟩))) hA, vk_OFof q1 ht hA, hT⟩⟩
  · exact ⟨(0, 0), fun h => absurd h hj⟩
theorem lt_at (i : Nat) {w : Cond} (h : tables_1[i]? = some w) : w ∈ lw_tbl := List.mem_append_right _ (List.mem_of_getElem? h)
/-- every text of either class: the tables' word, and its value -/
theorem str_R : ∀ q ∈ strT, Cond.stringRef q.1 q.2.1 (wT.getD q.2.2 "") ∈ tables_1 ∧ q.2.2 < 14 ∧ (Term.string q.1 q.2.1 = tmT q.2.2 ∨ Term.string q.1 q.2.1 = tmM q.2.2) := by decide +kernel
/-- what holds at every state on the way -/
def ET (B b L : Nat) (xs : Nat → Int32) (sA sV : Nat → Nat) (fm : Value) (U : State) : Prop :=
  va_Z "java/lang/String" "COMPACT_STRINGS" "Z" (.int 1) (fun q => B ≤ q) U U.heap ∧ va_Z "jdk/internal/util/Preconditions" "SIOOBE_FORMATTER" "Ljava/util/function/BiFunction;" fm (fun q => B ≤ q) U U.heap ∧
  (∀ j : Nat, j < 14 → va_O "java/lang/String" (sA j) (fun q => B ≤ q) U U.heap ∧ va_OF "java/lang/String" "coder" "B" (.int 0) (sA j) (fun q => B ≤ q) U U.heap ∧ va_OF "java/lang/String" "value" "[B" (.ref (sV j)) (sA j) (fun q => B ≤ q) U U.heap ∧ va_T .byte (sV j) (wn j) (fun i => .int (wc j i)) (fun q => B ≤ q) U U.heap) ∧
  (∀ q ∈ strT, vk_R q.1 q.2.1 (wT.getD q.2.2 "") (sA q.2.2) U) ∧ va_X b L xs U U.heap
theorem ET.move {B b L : Nat} {xs : Nat → Int32} {sA sV : Nat → Nat} {fm : Value} (hb : b < B) {u U : State} (hW : u.WarmedH U.vm) (hq : ∀ q, q < B → U.heap[q]? = u.heap[q]?) (h : ET B b L xs sA sV fm u) : ET B b L xs sA sV fm U := by
  have hk : ∀ a : Nat, a < u.heap.size → ¬ B ≤ a → U.heap[a]? = u.heap[a]? := fun a _ hn => hq a (Nat.not_le.mp hn)
  obtain ⟨h1, h2, h3, h4, h5⟩ := h
  refine ⟨(va_Z.moved hW.alike h1).kept hk, (va_Z.moved hW.alike h2).kept hk, fun j hj => ?_, fun q hq => vk_R.warm hW (h4 q hq), (va_X.moved hW.alike h5).kept (hq b hb)⟩
  obtain ⟨a1, a2, a3, a4⟩ := h3 j hj
  exact ⟨(va_O.moved hW.alike a1).kept hk, (va_OF.moved hW.alike a2).kept hk, (va_OF.moved hW.alike a3).kept hk, (va_T.moved hW.alike a4).kept hk⟩
section EX
variable {X : xC} {b L : Nat} {xs : Nat → Int32} {sA sV : Nat → Nat} {fm : Value}
theorem ET.str (hE : xE X = ET (xB X) b L xs sA sV fm) (hf : fm = .null ∨ ∃ t : Nat, fm = .ref t) : XTxt X sA := by
  refine ⟨fun U h => ?_, ⟨sV, fun j hj U h => ?_⟩, ?_⟩
  · rw [hE] at h
    refine ⟨h.1, ?_, fun j hj => ⟨sV j, h.2.2.1 j hj⟩, h.2.2.2.1⟩
    rcases hf with rfl | ⟨t, rfl⟩
    · exact Or.inl h.2.1
    · exact Or.inr ⟨t, h.2.1⟩
  · rw [hE] at h
    exact (h.2.2.1 j hj).2.2
  · rcases hf with rfl | ⟨t, rfl⟩
    · exact Or.inl (fun U h => by rw [hE] at h; exact h.2.1)
    · exact Or.inr ⟨t, fun U h => by rw [hE] at h; exact h.2.1⟩
theorem ET.scr (hE : xE X = ET (xB X) b L xs sA sV fm) (hb : b < xB X) : XScr X b L xs := ⟨hb, fun U h => by rw [hE] at h; exact h.2.2.2.2⟩
theorem ET.ok (hE : xE X = ET (xB X) b L xs sA sV fm) (hb : b < xB X) : XOK X := by
  intro u U hW hq h
  rw [hE] at h ⊢
  exact h.move hb hW hq
end EX
/-- the texts, the statics and the script at the law's entry -/
theorem ET_at {s : State} {b L : Nat} {xs : Nat → Int32} (hts : ∀ w ∈ lw_tbl, w.before #[Value.ref b] s = true) (hX : va_X b L xs s s.heap) (hgv : (Jvm.Cond.and given_1 narrow_1).before #[Value.ref b] s = true) : ∃ (sA sV : Nat → Nat) (fm : Value), (fm = .null ∨ ∃ t : Nat, fm = .ref t) ∧ ET s.heap.size b L xs sA sV fm s := by
  have hA : ∀ a : Nat, a < s.heap.size → ¬ s.heap.size ≤ a := fun a h => Nat.not_le.mpr h
  have hs := flat_of_before _ hgv
  have z1 : va_Z "java/lang/String" "COMPACT_STRINGS" "Z" (.int 1) (fun q => s.heap.size ≤ q) s s.heap := va_Zof (hts _ (lt_at 430 (by decide +kernel))) (hts _ (lt_at 11 (by decide +kernel))) (va_eqi (hs _ gv_cs)) hA
  have z2 : va_Zq "jdk/internal/util/Preconditions" "SIOOBE_FORMATTER" "Ljava/util/function/BiFunction;" (fun q => s.heap.size ≤ q) s s.heap := va_Zqof (hts _ (lt_at 446 (by decide +kernel))) (hts _ (lt_at 13 (by decide +kernel))) (hs _ gv_sf) hA
  obtain ⟨ad, had⟩ := Classical.axiomOfChoice (str_at (A := fun q => s.heap.size ≤ q) hgv hA)
  have hR : ∀ q ∈ strT, vk_R q.1 q.2.1 (wT.getD q.2.2 "") (ad q.2.2).1 s := by
    intro q hq
    obtain ⟨r1, r2, r3⟩ := str_R q hq
    have e1 := (had q.2.2 r2).1
    refine vk_R.of (A := #[Value.ref b]) (hts _ (List.mem_append_right _ r1)) ?_
    rcases r3 with r3 | r3
    · rw [r3]; exact e1
    · rw [r3]
      exact va_eqR (hs _ (gv_eq ⟨q.2.2, r2⟩)) e1
  rcases z2 with z2 | ⟨t, z2⟩
  · exact ⟨fun j => (ad j).1, fun j => (ad j).2, .null, Or.inl rfl, z1, z2, fun j hj => (had j hj).2, hR, hX⟩
  · exact ⟨fun j => (ad j).1, fun j => (ad j).2, .ref t, Or.inr ⟨t, rfl⟩, z1, z2, fun j hj => (had j hj).2, hR, hX⟩
