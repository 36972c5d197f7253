/-! ===== the methods, one by one ===== -/
theorem fnS_ne {w c : Nat} {S : St} (h : c ≠ 45) : fnS w S c = S c := by unfold fnS; rw [put_vu, vu_ne _ _ h]
theorem ixA {j k n : Nat} (hj : j < 1000) (hk : k < 1000) (h : k + j < n) (hn : n < 1000) : inb (nI k + nI j) n = true ∧ (nI k + nI j).toNatClampNeg = k + j := ⟨by rw [nI_add]; exact inb_n h (by omega), ix12 hj hk⟩
section METH
variable {N : Int} {S : St}
theorem Inv.up28 (h : Inv N S) : Inv (N + 28800) S := h.le (by omega)
theorem p_sand (p q : Int32) : Step2 N (f_S_sand p q) (f_M_sand p q) := by
  intro S h
  unfold f_S_sand f_M_sand
  simp only [l_isYard, m_isYard, Option.bind_some, bI_0, m_in, s_f0, m_f0]
  by_cases hy : yardB p = false
  · simp only [hy, if_true]
    exact ⟨_, _, _, rfl, rfl, (h.find 0).up28⟩
  · have hy' : yardB p = true := by simpa using hy
    obtain ⟨j, hj, rfl⟩ := yard_n hy'
    simp only [hy', if_neg (show ¬ true = false by decide)]
    by_cases h1 : q < 0
    · have e : inB q 0 99 = false := by simp [inB, h1]
      simp only [h1, if_true, e]
      exact ⟨_, _, _, rfl, rfl, (h.find 0).up28⟩
    · by_cases h2 : q ≤ 99
      · have e : inB q 0 99 = true := inB_iff.mpr ⟨h1, Int32.not_lt.mpr h2⟩
        have hx := ixA (k := 12) (n := 92) (j := j) (by omega) (by omega) (by omega) (by omega)
        rw [show nI 12 = (12 : Int32) from rfl] at hx
        simp only [h1, if_false, h2, if_true, e, inb_n hj (show 40 < 1000000 by omega), nI_clamp (show j < 2 ^ 31 by omega), hx.1, hx.2, if_neg (show ¬ true = false by decide)]
        refine ⟨_, _, _, rfl, ?_, (h.setF hj (x := q)).up28⟩
        rw [put_vu, put_vu, vu_ne _ _ (by decide), R_f h.1 hj]
      · have e : inB q 0 99 = false := by
          cases hq : inB q 0 99 with
          | false => rfl
          | true => exact absurd (Int32.not_lt.mp (inB_iff.mp hq).2) h2
        simp only [h1, h2, if_false, if_true, e]
        exact ⟨_, _, _, rfl, rfl, (h.find 0).up28⟩
end METH
