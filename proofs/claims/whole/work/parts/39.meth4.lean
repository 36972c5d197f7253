section METH4
variable {N : Int} {S : St}
theorem p_now (p : Int32) : Step2 N (f_S_now p) (f_M_now p) := by
  intro S h
  have hag := R_has h.1
  have fin : ∀ (q : Int32), f_S_now q S = some ((-1000001) - 0, fnS 0 S) → f_M_now q (fnS 0 S) = some ((-1000001) - 0, fnM 0 (fnS 0 S)) → ∃ r S1 S2, f_S_now q S = some (r, S1) ∧ f_M_now q S1 = some (r, S2) ∧ Inv (N + 28800) S2 := fun q e1 e2 => ⟨_, _, _, e1, e2, (h.find 0).up28⟩
  have same : ∀ (q r : Int32), f_S_now q S = some (r, S) → f_M_now q S = some (r, S) → ∃ r S1 S2, f_S_now q S = some (r, S1) ∧ f_M_now q S1 = some (r, S2) ∧ Inv (N + 28800) S2 := fun q r e1 e2 => ⟨_, _, _, e1, e2, h.up28⟩
  by_cases h8 : p = 8
  · subst h8
    refine same 8 (hourF (S 4)) rfl ?_
    rw [← hour_ag hag]; rfl
  by_cases h9 : p = 9
  · subst h9
    refine same 9 (heatF (S 4)) ?_ ?_
    · show ((f_L_heat 2 3 4 S).bind fun q5 => some (q5.1, q5.2)) = _
      rw [l_heat]; rfl
    · show ((f_M_heat S).bind fun q5 => some (q5.1, q5.2)) = _
      rw [m_heat, heat_ag hag]; rfl
  by_cases h10 : p = 10
  · subst h10
    refine same 10 (weightF (S 4)) rfl ?_
    rw [← weight_ag hag]; rfl
  by_cases h11 : p = 11
  · subst h11
    refine same 11 (if bI (outB (S 4)) = 0 then 0 else 1) ?_ ?_
    · show ((f_L_isOut 2 3 4 S).bind fun q9 => some ((if (bI q9.1) = 0 then (0 : Int32) else 1), q9.2)) = _
      rw [l_isOut]; rfl
    · show ((f_M_isOut S).bind fun q9 => some ((if (bI q9.1) = 0 then (0 : Int32) else 1), q9.2)) = _
      rw [m_isOut, out_ag hag]; rfl
  by_cases h12 : p = 12
  · subst h12
    refine same 12 (S 4 8) rfl ?_
    rw [← hag 8 (by decide)]; rfl
  by_cases h13 : p = 13
  · subst h13
    refine same 13 (S 4 9) rfl ?_
    rw [← hag 9 (by decide)]; rfl
  by_cases h1 : p < 0
  · apply fin
    · unfold f_S_now
      simp only [h1, if_true, h8, h9, h10, h11, h12, h13, if_false, s_f0, Option.bind_some]
    · unfold f_M_now
      simp only [h8, h9, h10, h11, h12, h13, if_false, m_in, Option.bind_some, bI_0, inB_lo h1, if_true, m_f0]
  · by_cases h2 : 7 < p
    · apply fin
      · unfold f_S_now
        simp only [h1, h2, if_true, h8, h9, h10, h11, h12, h13, if_false, s_f0, Option.bind_some]
      · unfold f_M_now
        simp only [h8, h9, h10, h11, h12, h13, if_false, m_in, Option.bind_some, bI_0, inB_hi h2, if_true, m_f0]
    · obtain ⟨j, hj, rfl⟩ := slot_n (n := 8) h1 (by
        show ¬ (8 : Int32) ≤ p
        rw [i_le, show (8 : Int32).toInt = 8 from rfl]
        rw [i_lt, i7] at h2
        omega) (by omega)
      refine same (nI j) (S 4 j) ?_ ?_
      · unfold f_S_now
        simp only [h1, h2, if_false, inb_n (show j < 10 by omega) (show 10 < 1000000 by omega), nI_clamp (show j < 2 ^ 31 by omega), if_true]
      · unfold f_M_now
        simp only [h8, h9, h10, h11, h12, h13, if_false, m_in, Option.bind_some, bI_0, inB_ok h1 (Int32.not_lt.mp h2), if_neg tnf, inb_n (show j < 92 by omega) (show 92 < 1000000 by omega), nI_clamp (show j < 2 ^ 31 by omega), if_true, hag j (by omega)]
/-- what a slot holds -/
theorem slot_kind (h : Inv N S) {j : Nat} (hj : j < 10) (hne : ¬ S 5 j = -1) : 0 ≤ S 5 j ∧ S 5 j < 8 := by
  obtain ⟨a, b⟩ := h.1.1.2.1 j hj
  refine ⟨?_, by rw [i_lt, show (8 : Int32).toInt = 8 from rfl]; omega⟩
  rw [i_le, i0]
  have : (S 5 j).toInt ≠ -1 := fun e => hne (by rw [i_eq, im1]; exact e)
  omega
theorem p_effortOf (hN : N < 1999000000) (p q : Int32) : Step2 N (f_S_effortOf p q) (f_M_effortOf p q) := by
  intro S h
  have hag := R_has h.1
  have hm : MinOK (S 47) := (Bd_ag hag.sy h.1.1.1).min (by omega)
  unfold f_S_effortOf f_M_effortOf
  simp only [l_isSlot, m_isSlot, Option.bind_some, bI_0, m_in, s_f0, m_f0, s_f3, m_f3]
  by_cases hy : slotB p = false
  · simp only [hy, if_true]
    exact ⟨_, _, _, rfl, rfl, (h.find 0).up28⟩
  · have hy' : slotB p = true := by simpa using hy
    obtain ⟨j, hj, rfl⟩ := slotB_t hy'
    have hx := ixA (k := 52) (n := 92) (j := j) (by omega) (by omega) (by omega) (by omega)
    rw [show nI 52 = (52 : Int32) from rfl] at hx
    simp only [hy', if_neg tnf]
    by_cases h1 : q < 0
    · simp only [h1, if_true, inB_lo h1]
      exact ⟨_, _, _, rfl, rfl, (h.find 0).up28⟩
    · by_cases h2 : q ≤ 3
      · simp only [h1, h2, if_true, if_false, inB_ok h1 h2, if_neg tnf, inb_n hj (show 10 < 1000000 by omega), nI_clamp (show j < 2 ^ 31 by omega), hx.1, hx.2]
        by_cases hne : S 5 j = -1
        · simp only [hne, if_true]
          refine ⟨_, _, _, rfl, ?_, (h.find 3).up28⟩
          simp only [fnS_ne (show 47 ≠ 45 by decide), R_sl h.1 hj, hne, if_true]
        · have hk := slot_kind h hj hne
          simp only [hne, if_false, l_minutesOf, l_workOf, l_drinkOf, Option.bind_some]
          by_cases q0 : q = 0
          · simp only [q0, if_true]
            exact ⟨_, _, _, rfl, by simp only [R_sl h.1 hj, hne, if_false], h.up28⟩
          · by_cases q1 : q = 1
            · simp only [q0, q1, if_true, if_false, if_neg (show ¬ (1 : Int32) = 0 by decide)]
              exact ⟨_, _, _, rfl, by simp only [R_sl h.1 hj, hne, if_false, m_minutesOf _ hm, Option.bind_some, min_ag hag], h.up28⟩
            · by_cases q2 : q = 2
              · simp only [q0, q1, q2, if_true, if_false, if_neg (show ¬ (2 : Int32) = 0 by decide), if_neg (show ¬ (2 : Int32) = 1 by decide)]
                exact ⟨_, _, _, rfl, by simp only [R_sl h.1 hj, hne, if_false, m_workOf _ hk, Option.bind_some], h.up28⟩
              · simp only [q0, q1, q2, if_false]
                exact ⟨_, _, _, rfl, by simp only [R_sl h.1 hj, hne, if_false, m_drinks _ hk hm, Option.bind_some, drink_ag hag], h.up28⟩
      · simp only [h1, h2, if_false, inB_hi (Int32.not_le.mp h2), if_true]
        exact ⟨_, _, _, rfl, rfl, (h.find 0).up28⟩
theorem under_m {k w : Int32} (hk : 0 ≤ k ∧ k < 8) (hw : 0 ≤ w ∧ w < 8) {T : St} : f_M_isUnder k w T = some (underB k w, T) := by
  rcases kind_cases hk.1 hk.2 with rfl | rfl | rfl | rfl | rfl | rfl | rfl | rfl <;> rcases kind_cases hw.1 hw.2 with rfl | rfl | rfl | rfl | rfl | rfl | rfl | rfl <;> rfl
theorem p_as (p q : Int32) : Step2 N (f_S_as p q) (f_M_as p q) := by
  intro S h
  unfold f_S_as f_M_as f_M_isKind
  simp only [l_isSpot, l_isSlot, Option.bind_some, bI_0, m_in, inB_slot, s_f0, m_f0, s_f5, m_f5, s_f2, m_f2]
  by_cases hy : slotB p = false
  · simp only [hy, if_true]
    exact ⟨_, _, _, rfl, rfl, (h.find 0).up28⟩
  · have hy' : slotB p = true := by simpa using hy
    obtain ⟨j, hj, rfl⟩ := slotB_t hy'
    have hx := ixA (k := 62) (n := 92) (j := j) (by omega) (by omega) (by omega) (by omega)
    rw [show nI 62 = (62 : Int32) from rfl] at hx
    simp only [hy', if_neg tnf]
    by_cases h1 : q < 0
    · simp only [h1, if_true, inB_lo h1]
      exact ⟨_, _, _, rfl, rfl, (h.find 0).up28⟩
    · by_cases h2 : q < 8
      · have h7 : q ≤ 7 := by rw [i_le, i7]; rw [i_lt, show (8 : Int32).toInt = 8 from rfl] at h2; omega
        simp only [h1, h2, if_true, if_false, inB_ok h1 h7, if_neg tnf, inb_n hj (show 10 < 1000000 by omega), nI_clamp (show j < 2 ^ 31 by omega), hx.1, hx.2]
        obtain ⟨b0, b1⟩ := h.1.1.2.2.1 j hj
        by_cases hs : S 6 j = -1
        · have e : slotB (S 6 j) = false := by rw [hs]; rfl
          simp only [e, if_true]
          refine ⟨_, _, _, rfl, ?_, (h.find 5).up28⟩
          simp only [fnS_ne (show 47 ≠ 45 by decide), R_sp h.1 hj, hs, if_true]
        · obtain ⟨i, hi, ei⟩ : ∃ i : Nat, i < 10 ∧ S 6 j = nI i := by
            have hne : (S 6 j).toInt ≠ -1 := fun e => hs (by rw [i_eq, im1]; exact e)
            obtain ⟨i, hi, e⟩ := nI_of (x := S 6 j) (by rw [i_lt, i0]; omega)
            refine ⟨i, ?_, e⟩
            rw [e, nI_toInt hi] at b1
            omega
          have e : slotB (nI i) = true := by
            rw [← inB_slot]
            exact inB_ok (nI_pos (by omega)) (nI_le (b := 9) (by omega) (by decide))
          have hx2 := ixA (k := 52) (n := 92) (j := i) (by omega) (by omega) (by omega) (by omega)
          rw [show nI 52 = (52 : Int32) from rfl] at hx2
          have hni : ¬ nI i = -1 := fun z => by rw [← ei] at z; exact hs z
          simp only [ei, e, if_neg tnf, inb_n hi (show 10 < 1000000 by omega), nI_clamp (show i < 2 ^ 31 by omega), if_true]
          by_cases hne : S 5 i = -1
          · simp only [hne, if_true]
            refine ⟨_, _, _, rfl, ?_, (h.find 5).up28⟩
            simp only [fnS_ne (show 47 ≠ 45 by decide), R_sp h.1 hj, ei, hni, if_false, hx2.1, hx2.2, if_true, R_sl h.1 hi, hne]
          · have hk := slot_kind h hi hne
            have hw : 0 ≤ q ∧ q < 8 := ⟨Int32.not_lt.mp h1, h2⟩
            simp only [hne, if_false, l_isOfKind hk hw, Option.bind_some]
            by_cases hu : underB (S 5 i) q = false
            · simp only [hu, if_true]
              refine ⟨_, _, _, rfl, ?_, (h.find 2).up28⟩
              simp only [fnS_ne (show 47 ≠ 45 by decide), R_sp h.1 hj, ei, hni, if_false, hx2.1, hx2.2, if_true, R_sl h.1 hi, hne, under_m hk hw, Option.bind_some, hu]
            · have hu' : underB (S 5 i) q = true := by simpa using hu
              simp only [hu', if_neg tnf]
              refine ⟨_, _, _, rfl, ?_, h.up28⟩
              simp only [R_sp h.1 hj, ei, hni, if_false, hx2.1, hx2.2, if_true, R_sl h.1 hi, hne, under_m hk hw, Option.bind_some, hu', if_neg tnf]
      · have h7 : 7 < q := by rw [i_lt, i7]; rw [i_lt, show (8 : Int32).toInt = 8 from rfl] at h2; omega
        simp only [h1, h2, if_false, inB_hi h7, if_true]
        exact ⟨_, _, _, rfl, rfl, (h.find 0).up28⟩
/-- one effort on both sides, from agreeing numbers -/
theorem fm_ag (h : I_sc N S) : agF (fun i => S 47 (12 + i)) (S 3) := fun i hi => R_f h hi
theorem p_go (hN : N < 1900000000) (p : Int32) : Step2 N (f_S_go p) (f_M_go p) := by
  intro S h
  have hag := R_has h.1
  have hb := h.1.1.1
  have hb47 := Bd_ag hag.sy hb
  have hm : MinOK (S 47) := hb47.min (by omega)
  unfold f_S_go f_M_go
  simp only [l_isSlot, m_isSlot, Option.bind_some, bI_0, s_f0, m_f0, s_f3, m_f3, s_f4, m_f4]
  by_cases hy : slotB p = false
  · simp only [hy, if_true]
    exact ⟨_, _, _, rfl, rfl, (h.find 0).up28⟩
  · have hy' : slotB p = true := by simpa using hy
    obtain ⟨j, hj, rfl⟩ := slotB_t hy'
    have hx := ixA (k := 52) (n := 92) (j := j) (by omega) (by omega) (by omega) (by omega)
    rw [show nI 52 = (52 : Int32) from rfl] at hx
    simp only [hy', if_neg tnf, inb_n hj (show 10 < 1000000 by omega), nI_clamp (show j < 2 ^ 31 by omega), hx.1, hx.2, if_true]
    by_cases hne : S 5 j = -1
    · simp only [hne, if_true]
      refine ⟨_, _, _, rfl, ?_, (h.find 3).up28⟩
      simp only [fnS_ne (show 47 ≠ 45 by decide), R_sl h.1 hj, hne, if_true]
    · have hk := slot_kind h hj hne
      simp only [hne, if_false, l_carriesOut (c := 2) (g := 3) (h := 4) (S := S) (by decide) hk hb.b0 hb.b1, Option.bind_some]
      by_cases hc : canB (S 4) (S 5 j) = true
      · simp only [hc, if_true, if_neg tnf]
        refine ⟨_, _, va_up (va_up S 4 (carV (S 3) (S 4) (S 5 j))) 47 (carV (fun i => S 47 (12 + i)) (S 47) (S 5 j)), rfl, ?_, h.setCar (Bd_le (Bd_car hb (by omega)) (by omega)) (car_ag (fm_ag h.1) hag _) (fun i hi => car_hi hi)⟩
        have e47 : va_up S 4 (carV (S 3) (S 4) (S 5 j)) 47 = S 47 := vu_ne _ _ (by decide)
        simp only [e47, R_sl h.1 hj, hne, if_false, m_canDo (S := va_up S 4 (carV (S 3) (S 4) (S 5 j))) _ hk (by rw [e47]; exact hm), Option.bind_some, can_ag hag, hc, if_neg tnf, m_does (S := va_up S 4 (carV (S 3) (S 4) (S 5 j))) (N := N) _ hk (by rw [e47]; exact hb47) (by omega), vu_self]
        rw [car_ag (fm_ag h.1) hag _ 0 (by decide), hag 0 (by decide)]
      · have hc' : canB (S 4) (S 5 j) = false := by simpa using hc
        simp only [hc', if_true, Bool.false_eq_true, if_false]
        refine ⟨_, _, _, rfl, ?_, (h.find 4).up28⟩
        simp only [fnS_ne (show 47 ≠ 45 by decide), R_sl h.1 hj, hne, if_false, m_canDo (S := fnS 4 S) _ hk (by rw [fnS_ne (by decide)]; exact hm), Option.bind_some, can_ag hag, hc', if_true]
end METH4
