/-! ===== judge ===== -/
section METH11
variable {N : Int} {S : St}
def shB (p : Int32) : Bool := if p < 0 then false else if 4 ≤ p then false else true
theorem l_isSheet (p : Int32) : f_S_isSheet p S = some (shB p, S) := rfl
theorem inB_sh (p : Int32) : inB p 0 3 = shB p := by
  unfold inB shB
  by_cases h1 : p < 0
  · rw [if_pos h1, if_pos h1]
  · rw [if_neg h1, if_neg h1]
    by_cases h2 : 4 ≤ p
    · rw [if_pos h2, if_pos (by rw [i_lt]; rw [i_le] at h2; rw [show (3 : Int32).toInt = 3 from rfl]; rw [show (4 : Int32).toInt = 4 from rfl] at h2; omega)]
    · rw [if_neg h2, if_neg (by rw [i_lt]; rw [i_le] at h2; rw [show (3 : Int32).toInt = 3 from rfl]; rw [show (4 : Int32).toInt = 4 from rfl] at h2; omega)]
theorem m_isSheet (p : Int32) : f_M_isSheet p S = some (shB p, S) := by
  unfold f_M_isSheet
  rw [m_in, inB_sh]
  rfl
theorem shB_t {p : Int32} (h : shB p = true) : ∃ j : Nat, j < 4 ∧ p = nI j := by
  unfold shB at h
  by_cases h1 : p < 0
  · rw [if_pos h1] at h; cases h
  · rw [if_neg h1] at h
    by_cases h2 : 4 ≤ p
    · rw [if_pos h2] at h; cases h
    · exact slot_n (n := 4) h1 h2 (by omega)
theorem l_isMissing {c nm : Nat} : f_T_isMissing c nm S = some ((if S c 1 = 0 then true else false), S) := rfl
def jgV (fm pl num : Nat → Int32) (nn sz : Int32) : Nat → Nat → (Nat → Int32) → Int32
  | 0, _, _ => 0
  | m + 1, j, a => if sz ≤ nI j then 0 else (if nn ≤ nI j then 1 + nI j else (if canB a (pl j) = true then (if carV fm a (pl j) 0 = num j then jgV fm pl num nn sz m (j + 1) (carV fm a (pl j)) else 1 + nI j) else 1 + nI j))
theorem jgV_s {fm pl num : Nat → Int32} {nn sz : Int32} {m j : Nat} {a : Nat → Int32} : jgV fm pl num nn sz (m + 1) j a = if sz ≤ nI j then 0 else (if nn ≤ nI j then 1 + nI j else (if canB a (pl j) = true then (if carV fm a (pl j) 0 = num j then jgV fm pl num nn sz m (j + 1) (carV fm a (pl j)) else 1 + nI j) else 1 + nI j)) := by rw [jgV]
theorem jgV_ag {fm fm2 pl num : Nat → Int32} {nn sz : Int32} (hf : agF fm fm2) : ∀ (m j : Nat) (a b : Nat → Int32), ag a b → jgV fm pl num nn sz m j a = jgV fm2 pl num nn sz m j b := by
  intro m
  induction m with
  | zero => intro j a b h; rfl
  | succ m ih =>
    intro j a b h
    rw [jgV_s, jgV_s, can_ag h, car_ag hf h (pl j) 0 (by decide), ih _ _ _ (car_ag hf h _)]
theorem s_jg_loop {s : Nat} (hs4 : s < 4) (hp : Pk (S 1 5) (S 7)) (hz : (S (37 + 2 * s) 2).toInt ≤ 40) {y : Int32} : ∀ (m n j : Nat) (a : Nat → Int32) (N : Int), j + m = 40 → m + 2 ≤ n → Bd a N → N + 1440 * m < 1999000000 → ∃ x, f_S_judge_L46 (nI s) n y (nI j) (va_up S 23 a) = some (jgV (S 3) (S 7) (S (38 + 2 * s)) (S 1 5) (S (37 + 2 * s) 2) m j a, va_up S 23 x) := by
  have c1 : 37 + 2 * s ≠ 23 := by omega
  have c2 : 38 + 2 * s ≠ 23 := by omega
  have cl : (nI s).toNatClampNeg = s := nI_clamp (by omega)
  intro m
  induction m with
  | zero =>
    intro n j a N hj hn hb hN
    obtain ⟨n, rfl⟩ : ∃ n', n = n' + 1 := ⟨n - 1, by omega⟩
    have : j = 40 := by omega
    subst this
    refine ⟨a, ?_⟩
    rw [f_S_judge_L46, cl, vu_ne _ _ c1, if_pos (by rw [i_le, nI_toInt (by omega)]; exact hz)]
    rfl
  | succ m ih =>
    intro n j a N hj hn hb hN
    obtain ⟨n, rfl⟩ : ∃ n', n = n' + 1 := ⟨n - 1, by omega⟩
    rw [f_S_judge_L46, cl, vu_ne _ _ c1, jgV_s]
    by_cases hq : S (37 + 2 * s) 2 ≤ nI j
    · rw [if_pos hq, if_pos hq]
      exact ⟨a, rfl⟩
    rw [if_neg hq, if_neg hq, s_step (c := 22) (h := 23) (by decide) hp (by omega) hb, Option.bind_some]
    by_cases hq2 : S 1 5 ≤ nI j
    · rw [if_pos hq2, if_pos hq2]
      dsimp only
      rw [if_pos (show bI false = 0 from rfl)]
      exact ⟨a, rfl⟩
    · rw [if_neg hq2, if_neg hq2]
      dsimp only
      by_cases hc : canB a (S 7 j) = true
      · rw [if_pos hc, if_pos hc, hc, bI_t, if_neg (show ¬ (1 : Int32) = 0 by decide), if_pos (inb_n (show j < 40 by omega) (by omega)), nI_clamp (show j < 2 ^ 31 by omega)]
        simp only [vu_self, vu_ne _ _ c2]
        rw [← nI_succ]
        by_cases he : carV (S 3) a (S 7 j) 0 = S (38 + 2 * s) j
        · rw [if_pos he, if_pos he]
          exact ih n (j + 1) _ (N + 1440) (by omega) (by omega) (Bd_car hb (by omega)) (by omega)
        · rw [if_neg he, if_neg he]
          exact ⟨_, rfl⟩
      · have hc' : canB a (S 7 j) = false := by simpa using hc
        rw [if_neg hc, if_neg hc, hc', bI_f, if_pos (show (0 : Int32) = 0 by decide)]
        exact ⟨_, rfl⟩
theorem m_jg_end {s n : Nat} {y z : Int32} {b : Nat → Int32} (hs4 : s < 4) : f_M_judge_L25 (n + 1) (nI s) y z 0 (va_up (bgM S) 47 b) = some (1 + z, trM S b) := by
  rw [f_M_judge_L25, if_pos (inb_n hs4 (by omega)), if_pos (show (0 : Int32) = 0 by decide), m_bk, Option.bind_some]
  dsimp only
  rw [if_pos (show (0 : Int32) = 0 by decide), ite_self]
theorem m_jg_loop {s : Nat} {pl fm num : Nat → Int32} {nn sz : Int32} (hs4 : s < 4) (hp : Pk nn pl) (hz : S 54 s = sz) (hz2 : sz.toInt ≤ 40) (hnum : ∀ i, i < 40 → S 55 (40 * s + i) = num i) {y : Int32} : ∀ (m n j : Nat) (b : Nat → Int32) (N : Int), j + m = 40 → m + 3 ≤ n → Bd b N → N + 1440 * m < 1999000000 → (∀ i, b (12 + i) = fm i) → b 11 = nn → (∀ i, i < 20 → b (72 + i) = pl i) → ∃ W, f_M_judge_L25 n (nI s) y (nI j) 1 (va_up (bgM S) 47 b) = some (jgV fm pl num nn sz m j b, W) ∧ Mq S W := by
  have cl : (nI s).toNatClampNeg = s := nI_clamp (by omega)
  intro m
  induction m with
  | zero =>
    intro n j b N hj hn hb hN hf h11 h72
    obtain ⟨n, rfl⟩ : ∃ n', n = n' + 1 := ⟨n - 1, by omega⟩
    have : j = 40 := by omega
    subst this
    refine ⟨trM S b, ?_, trM_q⟩
    rw [f_M_judge_L25, if_pos (inb_n hs4 (by omega)), cl, vu_ne _ _ (by decide), bgM_ne (by decide), hz, if_pos (by rw [i_le, nI_toInt (by omega)]; exact hz2), m_bk, Option.bind_some]
    rfl
  | succ m ih =>
    intro n j b N hj hn hb hN hf h11 h72
    obtain ⟨n, rfl⟩ : ∃ n', n = n' + 1 := ⟨n - 1, by omega⟩
    rw [f_M_judge_L25, if_pos (inb_n hs4 (by omega)), cl, vu_ne _ _ (by decide), bgM_ne (by decide), hz, jgV_s]
    by_cases hq : sz ≤ nI j
    · refine ⟨trM S b, ?_, trM_q⟩
      rw [if_pos hq, if_pos hq, m_bk, Option.bind_some]
      rfl
    rw [if_neg hq, if_neg hq, if_neg (show ¬ (1 : Int32) = 0 by decide), vu_self, h11]
    by_cases hq2 : nn ≤ nI j
    · rw [if_pos hq2, if_pos hq2, Int32.add_zero]
      obtain ⟨n, rfl⟩ : ∃ n', n = n' + 1 := ⟨n - 1, by omega⟩
      exact ⟨_, m_jg_end hs4, trM_q⟩
    · obtain ⟨hk, hj20⟩ := hp.kind (by omega) hq2
      have hx := ixA (k := 72) (n := 92) (j := j) (by omega) (by omega) (by omega) (by omega)
      rw [show nI 72 = (72 : Int32) from rfl] at hx
      obtain ⟨e1, e2⟩ := m_carT (S := bgM S) hk hb (by omega)
      have efm : (fun i => b (12 + i)) = fm := funext hf
      rw [if_neg hq2, if_neg hq2, if_pos hx.1, hx.2, h72 j hj20, e1, Option.bind_some]
      dsimp only
      by_cases hc : canB b (pl j) = true
      · have hy : (40 * nI s + nI j) = nI (40 * s + j) := by
          rw [show (40 : Int32) = nI 40 from rfl, pk_mul, nI_add]
        rw [if_pos hc, hc, bI_t, if_neg (show ¬ (1 : Int32) = 0 by decide), if_neg (show ¬ (1 : Int32) = 0 by decide), vu_self, h72 j hj20, e2, Option.bind_some, efm, hy, if_pos (inb_n (show 40 * s + j < 160 by omega) (by omega)), nI_clamp (show 40 * s + j < 2 ^ 31 by omega)]
        simp only [vu_self, vu_ne _ _ (show 55 ≠ 47 by decide), bgM_ne (show 55 ≠ 49 by decide), hnum j (show j < 40 by omega)]
        by_cases he : carV fm b (pl j) 0 = num j
        · simp only [if_pos he, if_neg (show ¬ (1 : Int32) = 0 by decide)]
          rw [← nI_succ]
          exact ih n (j + 1) _ (N + 1440) (by omega) (by omega) (Bd_car hb (by omega)) (by omega) (fun i => (car_hi (by omega)).trans (hf i)) ((car_hi (by omega)).trans h11) (fun i hi => (car_hi (by omega)).trans (h72 i hi))
        · simp only [if_neg he, if_true]
          rw [Int32.add_zero]
          obtain ⟨n, rfl⟩ : ∃ n', n = n' + 1 := ⟨n - 1, by omega⟩
          exact ⟨_, m_jg_end hs4, trM_q⟩
      · have hc' : canB b (pl j) = false := by simpa using hc
        rw [if_neg hc, hc', bI_f]
        simp only [if_true]
        rw [Int32.add_zero]
        obtain ⟨n, rfl⟩ : ∃ n', n = n' + 1 := ⟨n - 1, by omega⟩
        exact ⟨_, m_jg_end hs4, trM_q⟩
theorem p_judge (hN : N < 1900000000) (p : Int32) : Step2 N (f_S_judge p) (f_M_judge p) := by
  intro S h
  have hag := R_has h.1
  have hb := h.1.1.1
  have hb47 := Bd_ag hag.sy hb
  unfold f_S_judge f_M_judge f_M_lacks
  simp only [l_isSheet, m_isSheet, Option.bind_some, bI_0, s_f0, s_f5, l_isMissing]
  by_cases hy : shB p = false
  · simp only [hy, if_true, Option.bind_some, if_neg (show ¬ (0 : Int32) < 0 by decide), m_f0]
    exact ⟨_, _, _, rfl, rfl, (h.find 0).up28⟩
  · have hy' : shB p = true := by simpa using hy
    obtain ⟨s, hs4, rfl⟩ := shB_t hy'
    obtain ⟨g1, g2, g3, g4, g5⟩ := h.2.2.2.2 s hs4
    simp only [hy', if_neg tnf, inb_n hs4 (show 4 < 1000000 by omega), nI_clamp (show s < 2 ^ 31 by omega), if_true]
    by_cases hz : S (37 + 2 * s) 1 = 0
    · simp only [hz, if_true, if_neg tnf]
      refine ⟨_, _, _, rfl, ?_, (h.find 5).up28⟩
      simp only [fnS_ne (show 53 ≠ 45 by decide), g1, hz, if_true, Option.bind_some, if_neg (show ¬ (5 : Int32) < 0 by decide), m_f5]
    · simp only [hz, if_false, if_true]
      have ha0 : ag (cp10 (S 4) (S 23)) (S 4) := cp10_ag _ _
      have hba := Bd_ag ha0.sy hb
      obtain ⟨x, hs⟩ := s_jg_loop (S := S) (y := nI s) hs4 h.pk g4.2 40 200 0 _ N (by omega) (by omega) hba (by omega)
      rw [nI_0, jgV_ag (show agF (S 3) (S 3) from fun _ _ => rfl) 40 0 _ _ ha0] at hs
      have e47 : va_up S 23 x 47 = S 47 := vu_ne _ _ (by decide)
      have q53 : va_up S 23 x 53 s = S (37 + 2 * s) 1 := by rw [vu_ne _ _ (by decide)]; exact g1
      obtain ⟨W, hm, hq⟩ := m_jg_loop (S := va_up S 23 x) (fm := fun i => S 47 (12 + i)) (num := S (38 + 2 * s)) (y := -1) hs4 h.pk (by rw [vu_ne _ _ (by decide)]; exact g2) g4.2 (fun i hi => by rw [vu_ne _ _ (by decide)]; exact g5 i hi) 40 200 0 (S 47) N (by omega) (by omega) hb47 (by omega) (fun _ => rfl) (R_n h.1) (fun i hi => R_pl h.1 hi)
      rw [nI_0, jgV_ag (fm_ag h.1) 40 0 _ _ hag] at hm
      refine ⟨jgV (S 3) (S 7) (S (38 + 2 * s)) (S 1 5) (S (37 + 2 * s) 2) 40 0 (S 4), va_up S 23 x, W, ?_, ?_, (h.q Sq.up hq).up28⟩
      · rw [l_become, Option.bind_some]
        exact hs
      · rw [q53, if_neg hz, Option.bind_some]
        dsimp only
        rw [if_pos (show (-1 : Int32) < 0 by decide), m_bg, Option.bind_some, bgM_eq, e47]
        exact hm
end METH11
