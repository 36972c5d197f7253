/-! ===== sums, runs, winds, odds ===== -/
section METH5
variable {N : Int} {S : St}
theorem pk_mk {z n : Int32} {g a f sl sp pl : Nat → Int32} (h0 : ag g a) (h1 : g 10 = z) (h2 : g 11 = n) (h3 : ∀ i, i < 40 → g (12 + i) = f i) (h4 : ∀ i, i < 10 → g (52 + i) = sl i) (h5 : ∀ i, i < 10 → g (62 + i) = sp i) (h6 : ∀ i, i < 20 → g (72 + i) = pl i) : ∀ i, i < 92 → g i = pkF z n a f sl sp pl i := by
  intro i hi
  unfold pkF
  split
  · exact h0 i (by omega)
  · split
    · rename_i q; rw [q]; exact h1
    · split
      · rename_i q; rw [q]; exact h2
      · split
        · have := h3 (i - 12) (by omega)
          rw [show 12 + (i - 12) = i by omega] at this
          exact this
        · split
          · have := h4 (i - 52) (by omega)
            rw [show 52 + (i - 52) = i by omega] at this
            exact this
          · split
            · have := h5 (i - 62) (by omega)
              rw [show 62 + (i - 62) = i by omega] at this
              exact this
            · have := h6 (i - 72) (by omega)
              rw [show 72 + (i - 72) = i by omega] at this
              exact this
/-- only the scene's cells and those of no weight have moved -/
theorem Inv.mvS {N2 : Int} {T : St} (h : Inv N S) (hN : N ≤ N2) (hc : ∀ c, rl c → c ≠ 1 → c ≠ 3 → c ≠ 4 → c ≠ 5 → c ≠ 6 → c ≠ 7 → T c = S c) (h34 : T 34 1 = S 34 1) (h3 : T 46 3 = S 46 3) (h6 : T 46 6 = S 46 6) (hs : I_sc N2 T) : Inv N2 T := by
  have h2 := h.le hN
  have hr : ∀ c, ((c < 9 ∨ (10 ≤ c ∧ c ≤ 14) ∨ 35 ≤ c) ∧ c ≠ 46 ∧ c ≠ 47 ∧ c ≠ 49 ∧ c ≠ 52 ∧ c ≠ 56) → c ≠ 1 → c ≠ 3 → c ≠ 4 → c ≠ 5 → c ≠ 6 → c ≠ 7 → T c = S c := hc
  exact ⟨hs, h2.2.1.of (hr _ (by omega) (by omega) (by omega) (by omega) (by omega) (by omega) (by omega)) h3 (hr _ (by omega) (by omega) (by omega) (by omega) (by omega) (by omega) (by omega)) (hr _ (by omega) (by omega) (by omega) (by omega) (by omega) (by omega) (by omega)) (hr _ (by omega) (by omega) (by omega) (by omega) (by omega) (by omega) (by omega)) (hr _ (by omega) (by omega) (by omega) (by omega) (by omega) (by omega) (by omega)) (hr _ (by omega) (by omega) (by omega) (by omega) (by omega) (by omega) (by omega)) (hr _ (by omega) (by omega) (by omega) (by omega) (by omega) (by omega) (by omega)) (hr _ (by omega) (by omega) (by omega) (by omega) (by omega) (by omega) (by omega)),
    h2.2.2.1.of (hr _ (by omega) (by omega) (by omega) (by omega) (by omega) (by omega) (by omega)) (hr _ (by omega) (by omega) (by omega) (by omega) (by omega) (by omega) (by omega)),
    h2.2.2.2.1.of h34 h6 (hr _ (by omega) (by omega) (by omega) (by omega) (by omega) (by omega) (by omega)) (hr _ (by omega) (by omega) (by omega) (by omega) (by omega) (by omega) (by omega)),
    h2.2.2.2.2.of (fun c h1 h2 => hr c (by omega) (by omega) (by omega) (by omega) (by omega) (by omega) (by omega)) (hr _ (by omega) (by omega) (by omega) (by omega) (by omega) (by omega) (by omega)) (hr _ (by omega) (by omega) (by omega) (by omega) (by omega) (by omega) (by omega)) (hr _ (by omega) (by omega) (by omega) (by omega) (by omega) (by omega) (by omega))⟩
def cntF (g : Nat → Int32) : Nat → Nat → Int32 → Int32
  | 0, _, x => x
  | m + 1, j, x => cntF g m (j + 1) (if g j = -1 then x else x + 1)
theorem s_filled_loop {r : Nat} : ∀ (m n j : Nat) (x : Int32), j + m = 10 → m + 2 ≤ n → f_S_filledOf_L4 r n x (nI j) S = some (cntF (S r) m j x, S) := by
  intro m
  induction m with
  | zero =>
    intro n j x hj hn
    obtain ⟨n, rfl⟩ : ∃ n', n = n' + 1 := ⟨n - 1, by omega⟩
    have : j = 10 := by omega
    subst this
    rfl
  | succ m ih =>
    intro n j x hj hn
    obtain ⟨n, rfl⟩ : ∃ n', n = n' + 1 := ⟨n - 1, by omega⟩
    unfold f_S_filledOf_L4
    have h1 : ¬ (10 : Int32) ≤ nI j := nI_ge (b := 10) (by omega) (by decide)
    rw [if_neg h1, if_pos (inb_n (by omega) (by omega)), nI_clamp (by omega), ← nI_succ]
    by_cases hq : S r j = -1
    · rw [if_pos hq, ih n (j + 1) x (by omega) (by omega)]
      show _ = some (cntF (S r) m (j + 1) (if S r j = -1 then x else x + 1), S)
      rw [if_pos hq]
    · rw [if_neg hq, ih n (j + 1) _ (by omega) (by omega)]
      show _ = some (cntF (S r) m (j + 1) (if S r j = -1 then x else x + 1), S)
      rw [if_neg hq]
theorem m_told_loop {k : Nat} {g : Nat → Int32} (hk : k < 82) (hg : ∀ i, i < 10 → S 47 (k + i) = g i) : ∀ (m n j : Nat) (x : Int32), j + m = 10 → m + 2 ≤ n → f_M_told_L5 n (nI k) 10 x (nI j) S = some (cntF g m j x, S) := by
  intro m
  induction m with
  | zero =>
    intro n j x hj hn
    obtain ⟨n, rfl⟩ : ∃ n', n = n' + 1 := ⟨n - 1, by omega⟩
    have : j = 10 := by omega
    subst this
    rfl
  | succ m ih =>
    intro n j x hj hn
    obtain ⟨n, rfl⟩ : ∃ n', n = n' + 1 := ⟨n - 1, by omega⟩
    unfold f_M_told_L5
    have h1 : ¬ (10 : Int32) ≤ nI j := nI_ge (b := 10) (by omega) (by decide)
    have hx := ixA (k := k) (n := 92) (j := j) (by omega) (by omega) (by omega) (by omega)
    rw [if_neg h1, if_pos hx.1, hx.2, hg j (by omega), ← nI_succ]
    show f_M_told_L5 n (nI k) 10 (x + (if g j = -1 then 0 else 1)) (nI (j + 1)) S = some (cntF g m (j + 1) (if g j = -1 then x else x + 1), S)
    rw [ih n (j + 1) _ (by omega) (by omega)]
    by_cases hq : g j = -1
    · rw [if_pos hq, if_pos hq, Int32.add_zero]
    · rw [if_neg hq, if_neg hq]
def sumF (g : Nat → Int32) : Nat → Nat → Int32 → Int32
  | 0, _, x => x
  | m + 1, j, x => sumF g m (j + 1) (x + g j)
theorem sumF_ag {g g2 : Nat → Int32} (h : agF g g2) : ∀ (m j : Nat) (x : Int32), j + m ≤ 40 → sumF g m j x = sumF g2 m j x := by
  intro m
  induction m with
  | zero => intro j x _; rfl
  | succ m ih =>
    intro j x hj
    show sumF g m (j + 1) (x + g j) = sumF g2 m (j + 1) (x + g2 j)
    rw [h j (by omega), ih _ _ (by omega)]
theorem s_firm_loop : ∀ (m n j : Nat) (x : Int32), j + m = 40 → m + 2 ≤ n → f_C_firmInAll_L4 n x (nI j) S = some (sumF (S 3) m j x, S) := by
  intro m
  induction m with
  | zero =>
    intro n j x hj hn
    obtain ⟨n, rfl⟩ : ∃ n', n = n' + 1 := ⟨n - 1, by omega⟩
    have : j = 40 := by omega
    subst this
    rfl
  | succ m ih =>
    intro n j x hj hn
    obtain ⟨n, rfl⟩ : ∃ n', n = n' + 1 := ⟨n - 1, by omega⟩
    unfold f_C_firmInAll_L4
    have h1 : ¬ (40 : Int32) ≤ nI j := nI_ge (b := 40) (by omega) (by decide)
    rw [if_neg h1, if_pos (inb_n (by omega) (by omega)), nI_clamp (by omega), ← nI_succ]
    show f_C_firmInAll_L4 n (x + S 3 j) (nI (j + 1)) S = _
    rw [ih n (j + 1) _ (by omega) (by omega)]
    rfl
theorem s_firm : f_C_firmInAll S = some (sumF (S 3) 40 0 0, S) := by
  have := s_firm_loop (S := S) 40 200 0 0 (by omega) (by omega)
  rw [nI_0] at this
  exact this
theorem m_firm_loop {g : Nat → Int32} (hg : ∀ i, i < 40 → S 47 (12 + i) = g i) : ∀ (m n j : Nat) (x : Int32), j + m = 40 → m + 2 ≤ n → f_M_allFirm_L4 n x (nI j) S = some (sumF g m j x, S) := by
  intro m
  induction m with
  | zero =>
    intro n j x hj hn
    obtain ⟨n, rfl⟩ : ∃ n', n = n' + 1 := ⟨n - 1, by omega⟩
    have : j = 40 := by omega
    subst this
    rfl
  | succ m ih =>
    intro n j x hj hn
    obtain ⟨n, rfl⟩ : ∃ n', n = n' + 1 := ⟨n - 1, by omega⟩
    unfold f_M_allFirm_L4
    have h1 : ¬ (40 : Int32) ≤ nI j := nI_ge (b := 40) (by omega) (by decide)
    have hx := ixA (k := 12) (n := 92) (j := j) (by omega) (by omega) (by omega) (by omega)
    rw [show nI 12 = (12 : Int32) from rfl] at hx
    rw [if_neg h1, if_pos hx.1, hx.2, hg j (by omega), ← nI_succ]
    show f_M_allFirm_L4 n (x + g j) (nI (j + 1)) S = _
    rw [ih n (j + 1) _ (by omega) (by omega)]
    rfl
theorem m_firm {g : Nat → Int32} (hg : ∀ i, i < 40 → S 47 (12 + i) = g i) : f_M_allFirm S = some (sumF g 40 0 0, S) := by
  have := m_firm_loop hg 40 200 0 0 (by omega) (by omega)
  rw [nI_0] at this
  exact this
theorem p_count (p : Int32) : Step2 N (f_S_count p) (f_M_count p) := by
  intro S h
  unfold f_S_count f_M_count
  have hf := s_filled_loop (S := S) (r := 5) 10 200 0 0 (by omega) (by omega)
  have hf2 := s_filled_loop (S := S) (r := 6) 10 200 0 0 (by omega) (by omega)
  have ht := m_told_loop (S := S) (k := 52) (g := S 5) (by omega) (fun i hi => R_sl h.1 hi) 10 200 0 0 (by omega) (by omega)
  have ht2 := m_told_loop (S := S) (k := 62) (g := S 6) (by omega) (fun i hi => R_sp h.1 hi) 10 200 0 0 (by omega) (by omega)
  rw [nI_0] at hf hf2 ht ht2
  rw [show nI 52 = (52 : Int32) from rfl] at ht
  rw [show nI 62 = (62 : Int32) from rfl] at ht2
  unfold f_S_filledOf f_M_told
  simp only [hf, hf2, Option.bind_some, s_f0, m_f0, s_firm]
  by_cases h0 : p = 0
  · simp only [h0, if_true]
    exact ⟨_, _, _, rfl, by rw [R_n h.1], h.up28⟩
  by_cases h1 : p = 1
  · simp only [h0, h1, if_true, if_false]
    exact ⟨_, _, _, rfl, by rw [ht]; rfl, h.up28⟩
  by_cases h2 : p = 2
  · simp only [h0, h1, h2, if_true, if_false]
    exact ⟨_, _, _, rfl, by rw [ht2]; rfl, h.up28⟩
  by_cases h3 : p = 3
  · simp only [h0, h1, h2, h3, if_true, if_false]
    exact ⟨_, _, _, rfl, by rw [h.2.2.2.1.1]; rfl, h.up28⟩
  by_cases h4 : p = 4
  · simp only [h0, h1, h2, h3, h4, if_true, if_false]
    exact ⟨_, _, _, rfl, by rw [R_z h.1]; rfl, h.up28⟩
  by_cases h5 : p = 5
  · simp only [h0, h1, h2, h3, h4, h5, if_true, if_false]
    exact ⟨_, _, _, rfl, by rw [m_firm (fun i hi => R_f h.1 hi)]; rfl, h.up28⟩
  · simp only [h0, h1, h2, h3, h4, h5, if_false]
    exact ⟨_, _, _, rfl, rfl, (h.find 0).up28⟩
theorem p_status (p : Int32) : Step2 N (f_S_status p) (f_M_status p) := by
  intro S h
  unfold f_S_status f_M_status
  simp only [m_in, Option.bind_some, bI_0, s_f0, m_f0]
  by_cases h1 : p < -1
  · simp only [h1, if_true, inB_lo h1]
    exact ⟨_, _, _, rfl, rfl, (h.find 0).up28⟩
  · by_cases h2 : p < 7
    · have h6 : p ≤ 6 := by rw [i_le, i6]; rw [i_lt, i7] at h2; omega
      simp only [h1, h2, if_true, if_false, inB_ok h1 h6, if_neg tnf]
      by_cases h3 : p < 0
      · have e : p = -1 := by rw [i_eq, im1]; rw [i_lt, im1] at h1; rw [i_lt, i0] at h3; omega
        subst e
        simp only [h3, if_true]
        refine ⟨_, _, _, rfl, ?_, h.up28⟩
        show some (((((((0 + S 50 0) + S 50 1) + S 50 2) + S 50 3) + S 50 4) + S 50 5) + S 50 6, S) = some (((((((0 + S 45 0) + S 45 1) + S 45 2) + S 45 3) + S 45 4) + S 45 5) + S 45 6, S)
        rw [h.2.2.1 0 (by decide), h.2.2.1 1 (by decide), h.2.2.1 2 (by decide), h.2.2.1 3 (by decide), h.2.2.1 4 (by decide), h.2.2.1 5 (by decide), h.2.2.1 6 (by decide)]
      · obtain ⟨j, hj, rfl⟩ := slot_n (n := 7) h3 (by show ¬ (7 : Int32) ≤ p; rw [i_le, i7]; rw [i_lt, i7] at h2; omega) (by omega)
        simp only [h3, if_false, inb_n hj (show 7 < 1000000 by omega), if_true, nI_clamp (show j < 2 ^ 31 by omega)]
        refine ⟨_, _, _, rfl, ?_, h.up28⟩
        have hi := h.2.2.1 j hj
        rw [← hi]
        rcases (show j = 0 ∨ j = 1 ∨ j = 2 ∨ j = 3 ∨ j = 4 ∨ j = 5 ∨ j = 6 by omega) with rfl | rfl | rfl | rfl | rfl | rfl | rfl
        · show some (((((((0 + S 50 0) + 0) + 0) + 0) + 0) + 0) + 0, S) = _
          simp only [Int32.add_zero, Int32.zero_add]
        · show some (((((((0 + 0) + S 50 1) + 0) + 0) + 0) + 0) + 0, S) = _
          simp only [Int32.add_zero, Int32.zero_add]
        · show some (((((((0 + 0) + 0) + S 50 2) + 0) + 0) + 0) + 0, S) = _
          simp only [Int32.add_zero, Int32.zero_add]
        · show some (((((((0 + 0) + 0) + 0) + S 50 3) + 0) + 0) + 0, S) = _
          simp only [Int32.add_zero, Int32.zero_add]
        · show some (((((((0 + 0) + 0) + 0) + 0) + S 50 4) + 0) + 0, S) = _
          simp only [Int32.add_zero, Int32.zero_add]
        · show some (((((((0 + 0) + 0) + 0) + 0) + 0) + S 50 5) + 0, S) = _
          simp only [Int32.add_zero, Int32.zero_add]
        · show some (((((((0 + 0) + 0) + 0) + 0) + 0) + 0) + S 50 6, S) = _
          simp only [Int32.add_zero, Int32.zero_add]
    · have h6 : 6 < p := by rw [i_lt, i6]; rw [i_lt, i7] at h2; omega
      simp only [h1, h2, if_false, inB_hi h6, if_true]
      exact ⟨_, _, _, rfl, rfl, (h.find 0).up28⟩
def sfF (g : Nat → Int32) (v w : Int32) : Nat → Nat → Int32 → Int32 → Int32 → Int32
  | 0, _, b, f, _ => if w = 0 then b else f
  | m + 1, j, b, f, r => if (if v ≤ g j then 0 else r + 1) ≤ b then sfF g v w m (j + 1) b f (if v ≤ g j then 0 else r + 1) else sfF g v w m (j + 1) (if v ≤ g j then 0 else r + 1) (nI j - (if v ≤ g j then 0 else r + 1) + 1) (if v ≤ g j then 0 else r + 1)
theorem s_soft_loop {v w : Int32} : ∀ (m n j : Nat) (b f r : Int32), j + m = 40 → m + 2 ≤ n → f_S_soft_L36 n v w b f r (nI j) S = some (sfF (S 3) v w m j b f r, S) := by
  intro m
  induction m with
  | zero =>
    intro n j b f r hj hn
    obtain ⟨n, rfl⟩ : ∃ n', n = n' + 1 := ⟨n - 1, by omega⟩
    have : j = 40 := by omega
    subst this
    rfl
  | succ m ih =>
    intro n j b f r hj hn
    obtain ⟨n, rfl⟩ : ∃ n', n = n' + 1 := ⟨n - 1, by omega⟩
    unfold f_S_soft_L36 sfF
    have h1 : ¬ (40 : Int32) ≤ nI j := nI_ge (b := 40) (by omega) (by decide)
    rw [if_neg h1, if_pos (inb_n (by omega) (by omega)), nI_clamp (by omega), ← nI_succ]
    simp only
    by_cases hq : (if v ≤ S 3 j then 0 else r + 1) ≤ b
    · rw [if_pos hq, if_pos hq, ih n (j + 1) _ _ _ (by omega) (by omega)]
    · rw [if_neg hq, if_neg hq, ih n (j + 1) _ _ _ (by omega) (by omega)]
theorem m_soft_loop {v w : Int32} {g : Nat → Int32} (hg : ∀ i, i < 40 → S 47 (12 + i) = g i) : ∀ (m n j : Nat) (b f r : Int32), j + m = 40 → m + 2 ≤ n → f_M_soft_L36 n v w b f r (nI j) S = some (sfF g v w m j b f r, S) := by
  intro m
  induction m with
  | zero =>
    intro n j b f r hj hn
    obtain ⟨n, rfl⟩ : ∃ n', n = n' + 1 := ⟨n - 1, by omega⟩
    have : j = 40 := by omega
    subst this
    rfl
  | succ m ih =>
    intro n j b f r hj hn
    obtain ⟨n, rfl⟩ : ∃ n', n = n' + 1 := ⟨n - 1, by omega⟩
    unfold f_M_soft_L36 sfF
    have h1 : ¬ (40 : Int32) ≤ nI j := nI_ge (b := 40) (by omega) (by decide)
    have hx := ixA (k := 12) (n := 92) (j := j) (by omega) (by omega) (by omega) (by omega)
    rw [show nI 12 = (12 : Int32) from rfl] at hx
    rw [if_neg h1, if_pos hx.1, hx.2, hg j (by omega), ← nI_succ]
    simp only
    by_cases hq : (if v ≤ g j then 0 else r + 1) ≤ b
    · simp only [if_pos hq]
      rw [ih n (j + 1) _ _ _ (by omega) (by omega)]
    · simp only [if_neg hq]
      rw [ih n (j + 1) _ _ _ (by omega) (by omega)]
theorem p_soft (p q : Int32) : Step2 N (f_S_soft p q) (f_M_soft p q) := by
  intro S h
  unfold f_S_soft f_M_soft
  simp only [m_in, Option.bind_some, bI_0, s_f0, m_f0]
  have hs := s_soft_loop (S := S) (v := p) (w := q) 40 200 0 0 (-1) 0 (by omega) (by omega)
  have hm := m_soft_loop (S := S) (v := p) (w := q) (g := S 3) (fun i hi => R_f h.1 hi) 40 200 0 0 (-1) 0 (by omega) (by omega)
  rw [nI_0] at hs hm
  by_cases h1 : p < 0
  · simp only [h1, if_true, inB_lo h1]
    exact ⟨_, _, _, rfl, rfl, (h.find 0).up28⟩
  · by_cases h2 : 100 < p
    · simp only [h1, h2, if_true, if_false, inB_hi h2]
      exact ⟨_, _, _, rfl, rfl, (h.find 0).up28⟩
    · have e : inB p 0 100 = true := inB_ok h1 (Int32.not_lt.mp h2)
      simp only [h1, h2, if_false, e, if_neg tnf]
      by_cases h3 : q < 0
      · simp only [h3, if_true, inB_lo h3]
        exact ⟨_, _, _, rfl, rfl, (h.find 0).up28⟩
      · by_cases h4 : q ≤ 1
        · simp only [h3, h4, if_true, if_false, inB_ok h3 h4, if_neg tnf]
          exact ⟨_, _, _, hs, hm, h.up28⟩
        · simp only [h3, h4, if_false, inB_hi (Int32.not_le.mp h4), if_true]
          exact ⟨_, _, _, rfl, rfl, (h.find 0).up28⟩
end METH5
