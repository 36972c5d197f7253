section METH3
variable {N : Int} {S : St}
theorem i0 : (0 : Int32).toInt = 0 := rfl
theorem i6 : (6 : Int32).toInt = 6 := rfl
theorem i7 : (7 : Int32).toInt = 7 := rfl
theorem i20 : (20 : Int32).toInt = 20 := rfl
theorem i1 : (1 : Int32).toInt = 1 := rfl
theorem im1 : (-1 : Int32).toInt = -1 := rfl
theorem p_set (p q : Int32) : Step2 N (f_S_set p q) (f_M_set p q) := by
  intro S h
  unfold f_S_set f_M_set f_M_isSet
  simp only [Option.bind_some, bI_0, m_in, s_f0, m_f0]
  by_cases h1 : p < 0
  · simp only [h1, if_true, inB_lo h1]
    exact ⟨_, _, _, rfl, rfl, (h.find 0).up28⟩
  · by_cases h2 : 6 < p
    · simp only [h1, h2, if_true, if_false, inB_hi h2]
      exact ⟨_, _, _, rfl, rfl, (h.find 0).up28⟩
    · have hok := inB_ok (lo := 0) h1 (Int32.not_lt.mp h2)
      simp only [h1, h2, if_false, hok, if_neg tnf]
      obtain ⟨j, hj, rfl⟩ := slot_n (n := 7) h1 (by
        show ¬ (7 : Int32) ≤ p
        rw [i_le, i7]
        rw [i_lt, i6] at h2
        omega) (by omega)
      have key : ∀ (lo hi : Int32), f_S_leastOf (nI j) S = some (lo, S) → f_S_mostOf (nI j) S = some (hi, S) → (∀ T : St, f_M_mostOf (nI j) T = some (hi, T)) → (if nI j = 5 then (1 : Int32) else 0) = lo → (¬ q < lo → q ≤ hi → Bd (upd (S 4) j q) N) → ∃ r S1 S2, ((f_S_leastOf (nI j) S).bind fun q5 => (if q < q5.1 then some ((-1000001) - 0, fnS 0 q5.2) else ((f_S_mostOf (nI j) q5.2).bind fun q8 => (if q ≤ q8.1 then (if inb (nI j) 10 = true then some (q8.2 4 (nI j).toNatClampNeg, put q8.2 4 (nI j).toNatClampNeg q) else none) else some ((-1000001) - 0, fnS 0 q8.2))))) = some (r, S1) ∧ (((f_M_mostOf (nI j) S1).bind fun q3 => some (inB q (if nI j = 5 then 1 else 0) q3.1, q3.2)).bind fun q4 => (if q4.1 = false then some ((-1000001) - 0, fnM 0 q4.2) else (if inb (nI j) 92 = true then some (q4.2 47 (nI j).toNatClampNeg, put q4.2 47 (nI j).toNatClampNeg q) else none))) = some (r, S2) ∧ Inv (N + 28800) S2 := by
        intro lo hi e1 e2 e3 e4 hB
        rw [e1]
        simp only [Option.bind_some, e2, e3, e4]
        by_cases q1 : q < lo
        · simp only [q1, if_true, inB_lo q1]
          exact ⟨_, _, _, rfl, rfl, (h.find 0).up28⟩
        · by_cases q2 : q ≤ hi
          · simp only [q1, q2, if_true, if_false, inB_ok q1 q2, if_neg tnf, inb_n (show j < 10 by omega) (show 10 < 1000000 by omega), inb_n (show j < 92 by omega) (show 92 < 1000000 by omega), nI_clamp (show j < 2 ^ 31 by omega)]
            refine ⟨_, _, _, rfl, ?_, (h.setA (by omega) (hB q1 q2)).up28⟩
            rw [put_vu, put_vu, vu_ne _ _ (by decide), R_has h.1 j (by omega)]
          · simp only [q1, q2, if_false, inB_hi (Int32.not_le.mp q2), if_true]
            exact ⟨_, _, _, rfl, rfl, (h.find 0).up28⟩
      obtain ⟨hb0, hb1, hb2, hb3, hb4, hb5, hb7⟩ := h.1.1.1
      rcases (show j = 0 ∨ j = 1 ∨ j = 2 ∨ j = 3 ∨ j = 4 ∨ j = 5 ∨ j = 6 by omega) with rfl | rfl | rfl | rfl | rfl | rfl | rfl
      · refine key 0 39 rfl rfl (fun _ => rfl) rfl (fun a b => ⟨?_, hb1, hb2, hb3, hb4, hb5, hb7⟩)
        show -1 ≤ q.toInt ∧ q.toInt ≤ 40
        rw [i_lt, i0] at a
        rw [i_le, show (39 : Int32).toInt = 39 from rfl] at b
        omega
      · refine key 0 99 rfl rfl (fun _ => rfl) rfl (fun a b => ⟨hb0, ?_, hb2, hb3, hb4, hb5, hb7⟩)
        show 0 ≤ q.toInt ∧ q.toInt ≤ 99
        rw [i_lt, i0] at a
        rw [i_le, show (99 : Int32).toInt = 99 from rfl] at b
        omega
      · refine key 0 99 rfl rfl (fun _ => rfl) rfl (fun a b => ⟨hb0, hb1, ?_, hb3, hb4, hb5, hb7⟩)
        show 0 ≤ q.toInt ∧ q.toInt ≤ 99
        rw [i_lt, i0] at a
        rw [i_le, show (99 : Int32).toInt = 99 from rfl] at b
        omega
      · refine key 0 9 rfl rfl (fun _ => rfl) rfl (fun a b => ⟨hb0, hb1, hb2, ?_, hb4, hb5, hb7⟩)
        show 0 ≤ q.toInt ∧ q.toInt ≤ 9
        rw [i_lt, i0] at a
        rw [i_le, show (9 : Int32).toInt = 9 from rfl] at b
        omega
      · refine key 0 8 rfl rfl (fun _ => rfl) rfl (fun a b => ⟨hb0, hb1, hb2, hb3, ?_, hb5, hb7⟩)
        show 0 ≤ q.toInt ∧ q.toInt ≤ 8
        rw [i_lt, i0] at a
        rw [i_le, show (8 : Int32).toInt = 8 from rfl] at b
        omega
      · refine key 1 8 rfl rfl (fun _ => rfl) rfl (fun a b => ⟨hb0, hb1, hb2, hb3, hb4, ?_, hb7⟩)
        show 1 ≤ q.toInt ∧ q.toInt ≤ 8
        rw [i_lt, i1] at a
        rw [i_le, show (8 : Int32).toInt = 8 from rfl] at b
        omega
      · exact key 0 9999 rfl rfl (fun _ => rfl) rfl (fun a b => ⟨hb0, hb1, hb2, hb3, hb4, hb5, hb7⟩)
theorem p_wipe : Step2 N f_S_wipe f_M_wipe := by
  intro S h
  obtain ⟨t1, t2, t3⟩ := h.2.2.2.1
  refine ⟨S 34 1, put S 34 1 0, put (put S 34 1 0) 46 6 0, rfl, ?_, ?_⟩
  · show some ((put S 34 1 0) 46 6, _) = _
    rw [put_vu, vu_ne _ _ (by decide), t1]
  · have hr : ∀ c, c ≠ 34 → c ≠ 46 → put (put S 34 1 0) 46 6 0 c = S c := fun c h1 h2 => by rw [put_vu, put_vu, vu_ne _ _ h2, vu_ne _ _ h1]
    have e34 : put (put S 34 1 0) 46 6 0 34 1 = 0 := rfl
    have e466 : put (put S 34 1 0) 46 6 0 46 6 = 0 := rfl
    have e463 : put (put S 34 1 0) 46 6 0 46 3 = S 46 3 := rfl
    refine ⟨h.1.of (hr _ (by decide) (by decide)) (hr _ (by decide) (by decide)) (hr _ (by decide) (by decide)) (hr _ (by decide) (by decide)) (hr _ (by decide) (by decide)) (hr _ (by decide) (by decide)) (fun i _ => by rw [hr 47 (by decide) (by decide)]) |> fun q => ⟨q.1.le (by omega), q.2⟩,
      (h.up28).2.1.of (hr _ (by decide) (by decide)) e463 (hr _ (by decide) (by decide)) (hr _ (by decide) (by decide)) (hr _ (by decide) (by decide)) (hr _ (by decide) (by decide)) (hr _ (by decide) (by decide)) (hr _ (by decide) (by decide)) (hr _ (by decide) (by decide)),
      h.2.2.1.of (hr _ (by decide) (by decide)) (hr _ (by decide) (by decide)), ?_,
      h.2.2.2.2.of (fun c h1 h2 => hr c (by omega) (by omega)) (hr _ (by decide) (by decide)) (hr _ (by decide) (by decide)) (hr _ (by decide) (by decide))⟩
    refine ⟨by rw [e34, e466], by rw [e34]; decide, fun i hi => ?_⟩
    rw [e34, i0] at hi
    omega
theorem p_tear : Step2 N f_S_tear f_M_tear := by
  intro S h
  obtain ⟨t1, t2, t3⟩ := h.2.1
  refine ⟨_, _, put (put S 0 9 0) 46 3 0, rfl, ?_, ?_⟩
  · show some ((if (put S 0 9 0) 46 3 = 0 then (0 : Int32) else 1), _) = _
    rw [put_vu, vu_ne _ _ (by decide), t1]
  · have hr : ∀ c, c ≠ 0 → c ≠ 46 → put (put S 0 9 0) 46 3 0 c = S c := fun c h1 h2 => by rw [put_vu, put_vu, vu_ne _ _ h2, vu_ne _ _ h1]
    have e0 : put (put S 0 9 0) 46 3 0 0 9 = 0 := rfl
    have e463 : put (put S 0 9 0) 46 3 0 46 3 = 0 := rfl
    have e466 : put (put S 0 9 0) 46 3 0 46 6 = S 46 6 := rfl
    refine ⟨h.up28.1.of (hr _ (by decide) (by decide)) (hr _ (by decide) (by decide)) (hr _ (by decide) (by decide)) (hr _ (by decide) (by decide)) (hr _ (by decide) (by decide)) (hr _ (by decide) (by decide)) (fun i _ => by rw [hr 47 (by decide) (by decide)]),
      ⟨by rw [e0, e463], by rw [e0]; exact Or.inl rfl, fun q => absurd e0 q⟩,
      h.2.2.1.of (hr _ (by decide) (by decide)) (hr _ (by decide) (by decide)),
      h.2.2.2.1.of (by rw [hr 34 (by decide) (by decide)]) e466 (hr _ (by decide) (by decide)) (hr _ (by decide) (by decide)),
      h.2.2.2.2.of (fun c h1 h2 => hr c (by omega) (by omega)) (hr _ (by decide) (by decide)) (hr _ (by decide) (by decide)) (hr _ (by decide) (by decide))⟩
theorem p_planOf (p : Int32) : Step2 N (f_S_planOf p) (f_M_planOf p) := by
  intro S h
  obtain ⟨n0, n1⟩ := h.1.1.2.2.2.1
  have en := R_n h.1
  unfold f_S_planOf f_M_planOf
  simp only [Option.bind_some, bI_0, m_in, s_f0, m_f0]
  have es : (S 47 11 - 1).toInt = (S 1 5).toInt - 1 := by rw [en, i_sub (by rw [i1]; omega) (by rw [i1]; omega), i1]
  by_cases h1 : p < 0
  · simp only [h1, if_true]
    refine ⟨_, _, _, rfl, ?_, (h.find 0).up28⟩
    simp only [inB_lo h1, if_true]
  · by_cases h2 : S 1 5 ≤ p
    · have h3 : S 47 11 - 1 < p := by rw [i_lt, es]; rw [i_le] at h2; omega
      simp only [h1, h2, if_true, if_false]
      refine ⟨_, _, _, rfl, ?_, (h.find 0).up28⟩
      simp only [fnS_ne (show 47 ≠ 45 by decide), inB_hi h3, if_true]
    · have h3 : p ≤ S 47 11 - 1 := by rw [i_le, es]; rw [i_le] at h2; omega
      have h4 : p < 20 := by rw [i_lt, i20]; rw [i_le] at h2; omega
      obtain ⟨j, hj, rfl⟩ := slot_n (n := 20) h1 (by show ¬ (20 : Int32) ≤ p; exact Int32.not_le.mpr h4) (by omega)
      have hx := ixA (k := 72) (n := 92) (j := j) (by omega) (by omega) (by omega) (by omega)
      rw [show nI 72 = (72 : Int32) from rfl] at hx
      simp only [h1, h2, h4, if_true, if_false, inb_n hj (show 20 < 1000000 by omega), nI_clamp (show j < 2 ^ 31 by omega)]
      refine ⟨_, _, _, rfl, ?_, h.up28⟩
      simp only [inB_ok h1 h3, if_neg tnf, hx.1, hx.2, if_true, R_pl h.1 hj]
end METH3
