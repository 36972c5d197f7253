theorem inB_lo {v lo hi : Int32} (h : v < lo) : inB v lo hi = false := by simp [inB, h]
theorem inB_hi {v lo hi : Int32} (h : hi < v) : inB v lo hi = false := by
  unfold inB
  by_cases q : v < lo
  · rw [if_pos q]
  · rw [if_neg q, if_pos h]
theorem inB_ok {v lo hi : Int32} (h : ¬ v < lo) (h2 : v ≤ hi) : inB v lo hi = true := inB_iff.mpr ⟨h, Int32.not_lt.mpr h2⟩
theorem tnf : ¬ true = false := by decide
theorem slot_n {p : Int32} {n : Nat} (h1 : ¬ p < 0) (h2 : ¬ nI n ≤ p) (hn : n < 1000) : ∃ j : Nat, j < n ∧ p = nI j := by
  obtain ⟨j, hj, rfl⟩ := nI_of h1
  rcases Nat.lt_or_ge j n with q | q
  · exact ⟨j, q, rfl⟩
  · exact absurd (nI_le q (by omega)) h2
def slotB (p : Int32) : Bool := if p < 0 then false else if 10 ≤ p then false else true
theorem l_isSlot {S : St} (p : Int32) : f_S_isSlot p S = some (slotB p, S) := rfl
theorem l_isSpot {S : St} (p : Int32) : f_S_isSpot p S = some (slotB p, S) := rfl
theorem slotB_t {p : Int32} (h : slotB p = true) : ∃ j : Nat, j < 10 ∧ p = nI j := by
  unfold slotB at h
  by_cases h1 : p < 0
  · rw [if_pos h1] at h; cases h
  · rw [if_neg h1] at h
    by_cases h2 : 10 ≤ p
    · rw [if_pos h2] at h; cases h
    · exact slot_n (n := 10) h1 h2 (by omega)
theorem inB_slot (p : Int32) : inB p 0 9 = slotB p := by
  unfold inB slotB
  by_cases h1 : p < 0
  · rw [if_pos h1, if_pos h1]
  · rw [if_neg h1, if_neg h1]
    by_cases h2 : 10 ≤ p
    · rw [if_pos h2, if_pos (by rw [i_lt]; rw [i_le] at h2; rw [show (9 : Int32).toInt = 9 from rfl]; rw [show (10 : Int32).toInt = 10 from rfl] at h2; omega)]
    · rw [if_neg h2, if_neg (by rw [i_lt]; rw [i_le] at h2; rw [show (9 : Int32).toInt = 9 from rfl]; rw [show (10 : Int32).toInt = 10 from rfl] at h2; omega)]
theorem m_isSlot {S : St} (p : Int32) : f_M_isSlot p S = some (slotB p, S) := by
  unfold f_M_isSlot
  rw [m_in, inB_slot]
  rfl
section METH2
variable {N : Int} {S : St}
theorem p_yardOf (p q : Int32) : Step2 N (f_S_yardOf p q) (f_M_yardOf p q) := by
  intro S h
  unfold f_S_yardOf f_M_yardOf
  simp only [l_isYard, m_isYard, Option.bind_some, bI_0, m_in, s_f0, m_f0]
  by_cases hy : yardB p = false
  · simp only [hy, if_true]
    exact ⟨_, _, _, rfl, rfl, (h.find 0).up28⟩
  · have hy' : yardB p = true := by simpa using hy
    obtain ⟨j, hj, rfl⟩ := yard_n hy'
    simp only [hy', if_neg tnf]
    by_cases h1 : q < 0
    · simp only [h1, if_true, inB_lo h1]
      exact ⟨_, _, _, rfl, rfl, (h.find 0).up28⟩
    · by_cases h2 : q ≤ 1
      · have hx := ixA (k := 12) (n := 92) (j := j) (by omega) (by omega) (by omega) (by omega)
        rw [show nI 12 = (12 : Int32) from rfl] at hx
        simp only [h1, if_false, h2, if_true, inB_ok h1 h2, inb_n hj (show 40 < 1000000 by omega), nI_clamp (show j < 2 ^ 31 by omega), hx.1, hx.2, if_neg tnf, m_grip hy', l_gripOf, Option.bind_some]
        by_cases h3 : q = 0
        · simp only [h3, if_true]
          exact ⟨_, _, _, rfl, by rw [R_f h.1 hj], h.up28⟩
        · simp only [h3, if_false]
          exact ⟨_, _, _, rfl, by rw [R_f h.1 hj, R_has h.1 3 (by decide), grip_ag (R_has h.1)], h.up28⟩
      · simp only [h1, h2, if_false, if_true, inB_hi (Int32.not_le.mp h2)]
        exact ⟨_, _, _, rfl, rfl, (h.find 0).up28⟩
theorem p_seed (p : Int32) : Step2 N (f_S_seed p) (f_M_seed p) := by
  intro S h
  refine ⟨_, _, _, rfl, ?_, (h.setZ (x := p)).up28⟩
  show some ((put S 1 6 p) 47 10, put (put S 1 6 p) 47 10 p) = _
  rw [put_vu, put_vu, vu_ne _ _ (by decide), R_z h.1]
theorem p_clear : Step2 N f_S_clear f_M_clear := by
  intro S h
  refine ⟨_, _, _, rfl, ?_, h.setN0.up28⟩
  show some ((put S 1 5 0) 47 11, put (put S 1 5 0) 47 11 0) = _
  rw [put_vu, put_vu, vu_ne _ _ (by decide), R_n h.1]
theorem p_effort (p q : Int32) : Step2 N (f_S_effort p q) (f_M_effort p q) := by
  intro S h
  unfold f_S_effort f_M_effort f_M_isKind
  simp only [l_isSlot, m_isSlot, Option.bind_some, bI_0, m_in, s_f0, m_f0]
  by_cases hy : slotB p = false
  · simp only [hy, if_true]
    exact ⟨_, _, _, rfl, rfl, (h.find 0).up28⟩
  · have hy' : slotB p = true := by simpa using hy
    obtain ⟨j, hj, rfl⟩ := slotB_t hy'
    have hx := ixA (k := 52) (n := 92) (j := j) (by omega) (by omega) (by omega) (by omega)
    rw [show nI 52 = (52 : Int32) from rfl] at hx
    simp only [hy', if_neg tnf, inb_n hj (show 10 < 1000000 by omega), nI_clamp (show j < 2 ^ 31 by omega), hx.1, hx.2, if_true]
    have fin : ∀ x : Int32, -1 ≤ x.toInt → x.toInt ≤ 7 → ∃ r S1 S2, some ((1 : Int32), put S 5 j x) = some (r, S1) ∧ some ((1 : Int32), put S1 47 (52 + j) x) = some (r, S2) ∧ Inv (N + 28800) S2 := by
      intro x h1 h2
      refine ⟨_, _, _, rfl, ?_, (h.setSl hj (x := x) ⟨h1, h2⟩).up28⟩
      rw [put_vu, put_vu, vu_ne _ _ (by decide)]
    by_cases h1 : q < -1
    · have hq : ¬ q = -1 := by intro e; rw [e] at h1; exact absurd h1 (by decide)
      have h0 : q < 0 := by rw [i_lt] at h1 ⊢; rw [show (-1 : Int32).toInt = -1 from rfl] at h1; rw [show (0 : Int32).toInt = 0 from rfl]; omega
      simp only [h1, if_true, hq, if_false, inB_lo h0]
      exact ⟨_, _, _, rfl, rfl, (h.find 0).up28⟩
    · by_cases h2 : q < 8
      · have hi1 : -1 ≤ q.toInt := by rw [i_lt, show (-1 : Int32).toInt = -1 from rfl] at h1; omega
        have hi2 : q.toInt ≤ 7 := by rw [i_lt, show (8 : Int32).toInt = 8 from rfl] at h2; omega
        simp only [h1, h2, if_true, if_false]
        by_cases h3 : q = -1
        · simp only [h3, if_true]
          exact fin (-1) (by decide) (by decide)
        · have h0 : ¬ q < 0 := by
            intro e
            rw [i_lt, show (0 : Int32).toInt = 0 from rfl] at e
            exact h3 (by rw [i_eq, show (-1 : Int32).toInt = -1 from rfl]; omega)
          have h7 : q ≤ 7 := by rw [i_le, show (7 : Int32).toInt = 7 from rfl]; omega
          simp only [h3, if_false, inB_ok h0 h7, if_neg tnf]
          exact fin q hi1 hi2
      · have hq : ¬ q = -1 := by intro e; rw [e] at h2; exact absurd (by decide) h2
        have h7 : 7 < q := by rw [i_lt] at h2 ⊢; rw [show (8 : Int32).toInt = 8 from rfl] at h2; rw [show (7 : Int32).toInt = 7 from rfl]; omega
        simp only [h1, h2, if_false, hq, inB_hi h7, if_true]
        exact ⟨_, _, _, rfl, rfl, (h.find 0).up28⟩
theorem p_hold (p q : Int32) : Step2 N (f_S_hold p q) (f_M_hold p q) := by
  intro S h
  unfold f_S_hold f_M_hold
  simp only [l_isSpot, l_isSlot, m_isSlot, Option.bind_some, bI_0, m_in, inB_slot, s_f0, m_f0]
  by_cases hy : slotB p = false
  · simp only [hy, if_true]
    exact ⟨_, _, _, rfl, rfl, (h.find 0).up28⟩
  · have hy' : slotB p = true := by simpa using hy
    obtain ⟨j, hj, rfl⟩ := slotB_t hy'
    have hx := ixA (k := 62) (n := 92) (j := j) (by omega) (by omega) (by omega) (by omega)
    rw [show nI 62 = (62 : Int32) from rfl] at hx
    simp only [hy', if_neg tnf, inb_n hj (show 10 < 1000000 by omega), nI_clamp (show j < 2 ^ 31 by omega), hx.1, hx.2, if_true]
    have fin : ∀ x : Int32, -1 ≤ x.toInt → x.toInt ≤ 9 → ∃ r S1 S2, some ((1 : Int32), put S 6 j x) = some (r, S1) ∧ some ((1 : Int32), put S1 47 (62 + j) x) = some (r, S2) ∧ Inv (N + 28800) S2 := by
      intro x h1 h2
      refine ⟨_, _, _, rfl, ?_, (h.setSp hj (x := x) ⟨h1, h2⟩).up28⟩
      rw [put_vu, put_vu, vu_ne _ _ (by decide)]
    by_cases h3 : q = -1
    · simp only [h3, if_true]
      exact fin (-1) (by decide) (by decide)
    · simp only [h3, if_false]
      by_cases hz : slotB q = false
      · simp only [hz, if_true]
        exact ⟨_, _, _, rfl, rfl, (h.find 0).up28⟩
      · have hz' : slotB q = true := by simpa using hz
        obtain ⟨i, hi, rfl⟩ := slotB_t hz'
        simp only [hz', if_neg tnf]
        exact fin (nI i) (by rw [nI_toInt (by omega)]; omega) (by rw [nI_toInt (by omega)]; omega)
end METH2
