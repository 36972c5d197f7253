theorem s_f0 {S : St} : f_S_finding 0 S = some ((-1000001) - 0, fnS 0 S) := s_find (w := 0) (by decide)
theorem m_f0 {S : St} : f_M_finding 0 S = some ((-1000001) - 0, fnM 0 S) := m_find (w := 0) (by decide)
theorem s_f1 {S : St} : f_S_finding 1 S = some ((-1000001) - 1, fnS 1 S) := s_find (w := 1) (by decide)
theorem m_f1 {S : St} : f_M_finding 1 S = some ((-1000001) - 1, fnM 1 S) := m_find (w := 1) (by decide)
theorem s_f2 {S : St} : f_S_finding 2 S = some ((-1000001) - 2, fnS 2 S) := s_find (w := 2) (by decide)
theorem m_f2 {S : St} : f_M_finding 2 S = some ((-1000001) - 2, fnM 2 S) := m_find (w := 2) (by decide)
theorem s_f3 {S : St} : f_S_finding 3 S = some ((-1000001) - 3, fnS 3 S) := s_find (w := 3) (by decide)
theorem m_f3 {S : St} : f_M_finding 3 S = some ((-1000001) - 3, fnM 3 S) := m_find (w := 3) (by decide)
theorem s_f4 {S : St} : f_S_finding 4 S = some ((-1000001) - 4, fnS 4 S) := s_find (w := 4) (by decide)
theorem m_f4 {S : St} : f_M_finding 4 S = some ((-1000001) - 4, fnM 4 S) := m_find (w := 4) (by decide)
theorem s_f5 {S : St} : f_S_finding 5 S = some ((-1000001) - 5, fnS 5 S) := s_find (w := 5) (by decide)
theorem m_f5 {S : St} : f_M_finding 5 S = some ((-1000001) - 5, fnM 5 S) := m_find (w := 5) (by decide)
theorem s_f6 {S : St} : f_S_finding 6 S = some ((-1000001) - 6, fnS 6 S) := s_find (w := 6) (by decide)
theorem m_f6 {S : St} : f_M_finding 6 S = some ((-1000001) - 6, fnM 6 S) := m_find (w := 6) (by decide)
theorem pk_lo {z n : Int32} {a f sl sp pl : Nat → Int32} {j : Nat} {x : Int32} (hj : j < 10) : ∀ i, i < 92 → upd (pkF z n a f sl sp pl) j x i = pkF z n (upd a j x) f sl sp pl i := by
  intro i hi
  simp only [pkF, upd_app]
  repeat' split
  all_goals first | rfl | omega
theorem pk_f {z n : Int32} {a f sl sp pl : Nat → Int32} {j : Nat} {x : Int32} (hj : j < 40) : ∀ i, i < 92 → upd (pkF z n a f sl sp pl) (12 + j) x i = pkF z n a (upd f j x) sl sp pl i := by
  intro i hi
  simp only [pkF, upd_app]
  repeat' split
  all_goals first | rfl | omega
theorem pk_sl {z n : Int32} {a f sl sp pl : Nat → Int32} {j : Nat} {x : Int32} (hj : j < 10) : ∀ i, i < 92 → upd (pkF z n a f sl sp pl) (52 + j) x i = pkF z n a f (upd sl j x) sp pl i := by
  intro i hi
  simp only [pkF, upd_app]
  repeat' split
  all_goals first | rfl | omega
theorem pk_sp {z n : Int32} {a f sl sp pl : Nat → Int32} {j : Nat} {x : Int32} (hj : j < 10) : ∀ i, i < 92 → upd (pkF z n a f sl sp pl) (62 + j) x i = pkF z n a f sl (upd sp j x) pl i := by
  intro i hi
  simp only [pkF, upd_app]
  repeat' split
  all_goals first | rfl | omega
theorem pk_pl {z n : Int32} {a f sl sp pl : Nat → Int32} {j : Nat} {x : Int32} (hj : j < 20) : ∀ i, i < 92 → upd (pkF z n a f sl sp pl) (72 + j) x i = pkF z n a f sl sp (upd pl j x) i := by
  intro i hi
  simp only [pkF, upd_app]
  repeat' split
  all_goals first | rfl | omega
theorem pk_z {z n : Int32} {a f sl sp pl : Nat → Int32} {x : Int32} : ∀ i, i < 92 → upd (pkF z n a f sl sp pl) 10 x i = pkF x n a f sl sp pl i := by
  intro i hi
  simp only [pkF, upd_app]
  repeat' split
  all_goals first | rfl | omega
theorem pk_n {z n : Int32} {a f sl sp pl : Nat → Int32} {x : Int32} : ∀ i, i < 92 → upd (pkF z n a f sl sp pl) 11 x i = pkF z x a f sl sp pl i := by
  intro i hi
  simp only [pkF, upd_app]
  repeat' split
  all_goals first | rfl | omega
theorem upd_ag92 {g g2 : Nat → Int32} {j : Nat} {x : Int32} (h : ∀ i, i < 92 → g i = g2 i) : ∀ i, i < 92 → upd g j x i = upd g2 j x i := by
  intro i hi
  simp only [upd_app]
  rw [h i hi]
section SETS
variable {N : Int} {S : St}
/-- cells aside, the invariant stays where only these two cells move -/
theorem Inv.mv (h : Inv N S) {c : Nat} {g g2 : Nat → Int32} (hc : c = 1 ∨ c = 3 ∨ c = 4 ∨ c = 5 ∨ c = 6 ∨ c = 7) (hs : I_sc N (va_up (va_up S c g) 47 g2)) : Inv N (va_up (va_up S c g) 47 g2) := by
  have hr : ∀ q, q ≠ c → q ≠ 47 → va_up (va_up S c g) 47 g2 q = S q := by
    intro q h1 h2
    rw [vu_ne _ _ h2, vu_ne _ _ h1]
  refine ⟨hs, h.2.1.of (hr _ (by omega) (by decide)) (by rw [hr 46 (by omega) (by decide)]) (hr _ (by omega) (by decide)) (hr _ (by omega) (by decide)) (hr _ (by omega) (by decide)) (hr _ (by omega) (by decide)) (hr _ (by omega) (by decide)) (hr _ (by omega) (by decide)) (hr _ (by omega) (by decide)),
    h.2.2.1.of (hr _ (by omega) (by decide)) (hr _ (by omega) (by decide)),
    h.2.2.2.1.of (by rw [hr 34 (by omega) (by decide)]) (by rw [hr 46 (by omega) (by decide)]) (hr _ (by omega) (by decide)) (hr _ (by omega) (by decide)),
    h.2.2.2.2.of (fun c h1 h2 => hr c (by omega) (by omega)) (hr _ (by omega) (by decide)) (hr _ (by omega) (by decide)) (hr _ (by omega) (by decide))⟩
theorem Inv.setF (h : Inv N S) {j : Nat} {x : Int32} (hj : j < 40) : Inv N (va_up (va_up S 3 (upd (S 3) j x)) 47 (upd (S 47) (12 + j) x)) := by
  refine h.mv (by omega) ⟨?_, fun i hi => ?_⟩
  · exact h.1.1
  · rw [vu_self]
    exact (upd_ag92 h.1.2 i hi).trans (pk_f hj i hi)
theorem Inv.setA (h : Inv N S) {j : Nat} {x : Int32} (hj : j < 10) (hb : Bd (upd (S 4) j x) N) : Inv N (va_up (va_up S 4 (upd (S 4) j x)) 47 (upd (S 47) j x)) := by
  refine h.mv (by omega) ⟨⟨hb, h.1.1.2⟩, fun i hi => ?_⟩
  rw [vu_self]
  exact (upd_ag92 h.1.2 i hi).trans (pk_lo hj i hi)
theorem Inv.setSl (h : Inv N S) {j : Nat} {x : Int32} (hj : j < 10) (hx : -1 ≤ x.toInt ∧ x.toInt ≤ 7) : Inv N (va_up (va_up S 5 (upd (S 5) j x)) 47 (upd (S 47) (52 + j) x)) := by
  refine h.mv (by omega) ⟨⟨h.1.1.1, fun i hi => ?_, h.1.1.2.2⟩, fun i hi => ?_⟩
  · show -1 ≤ (upd (S 5) j x i).toInt ∧ (upd (S 5) j x i).toInt ≤ 7
    simp only [upd_app]
    split
    · exact hx
    · exact h.1.1.2.1 i hi
  · rw [vu_self]
    exact (upd_ag92 h.1.2 i hi).trans (pk_sl hj i hi)
theorem Inv.setSp (h : Inv N S) {j : Nat} {x : Int32} (hj : j < 10) (hx : -1 ≤ x.toInt ∧ x.toInt ≤ 9) : Inv N (va_up (va_up S 6 (upd (S 6) j x)) 47 (upd (S 47) (62 + j) x)) := by
  refine h.mv (by omega) ⟨⟨h.1.1.1, h.1.1.2.1, fun i hi => ?_, h.1.1.2.2.2⟩, fun i hi => ?_⟩
  · show -1 ≤ (upd (S 6) j x i).toInt ∧ (upd (S 6) j x i).toInt ≤ 9
    simp only [upd_app]
    split
    · exact hx
    · exact h.1.1.2.2.1 i hi
  · rw [vu_self]
    exact (upd_ag92 h.1.2 i hi).trans (pk_sp hj i hi)
theorem Inv.setZ (h : Inv N S) {x : Int32} : Inv N (va_up (va_up S 1 (upd (S 1) 6 x)) 47 (upd (S 47) 10 x)) := by
  refine h.mv (by omega) ⟨h.1.1, fun i hi => ?_⟩
  rw [vu_self]
  exact (upd_ag92 h.1.2 i hi).trans (pk_z i hi)
theorem Inv.setN0 (h : Inv N S) : Inv N (va_up (va_up S 1 (upd (S 1) 5 0)) 47 (upd (S 47) 11 0)) := by
  refine h.mv (by omega) ⟨⟨h.1.1.1, h.1.1.2.1, h.1.1.2.2.1, (show 0 ≤ (0 : Int32).toInt ∧ (0 : Int32).toInt ≤ 20 by decide), fun i hi => ?_⟩, fun i hi => ?_⟩
  · exact absurd hi (by show ¬ (i : Int) < (0 : Int32).toInt; rw [show (0 : Int32).toInt = 0 from rfl]; omega)
  · rw [vu_self]
    exact (upd_ag92 h.1.2 i hi).trans (pk_n i hi)
/-- the lorry's numbers move on both sides, alike -/
theorem Inv.setCar (h : Inv N S) {a b : Nat → Int32} (hb : Bd a (N + 28800)) (hab : ag b a) (hhi : ∀ i, 10 ≤ i → b i = S 47 i) : Inv (N + 28800) (va_up (va_up S 4 a) 47 b) := by
  have h2 := h.le (N2 := N + 28800) (by omega)
  refine h2.mv (by omega) ⟨⟨hb, h2.1.1.2⟩, fun i hi => ?_⟩
  rw [vu_self]
  by_cases h10 : i < 10
  · rw [hab i h10]
    show _ = pkF _ _ a _ _ _ _ i
    simp [pkF, h10]
  · rw [hhi i (by omega), h.1.2 i hi]
    show pkF (S 1 6) (S 1 5) (S 4) (S 3) (S 5) (S 6) (S 7) i = pkF (S 1 6) (S 1 5) a (S 3) (S 5) (S 6) (S 7) i
    simp [pkF, h10]
end SETS
