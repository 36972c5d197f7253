/-! ===== the model's token; both together ===== -/
section NEXT
variable {b : Nat → Int32} {L : Nat}
theorem m_byteAt {T : St} {i : Nat} (hL : L ≤ 120) (h6 : T 46 6 = nI L) (h51 : ∀ i, i < L → T 51 i = b i) (hi : i ≤ L) : f_M_byteAt (nI i) T = some (if i < L then b i else -1, T) := by
  unfold f_M_byteAt
  rw [h6]
  by_cases hl : i < L
  · rw [if_neg (nI_ge hl (by omega)), if_pos (inb_n (by omega) (by omega)), nI_clamp (by omega), h51 i hl, if_pos hl]
  · rw [if_pos (nI_le (by omega) (by omega)), if_neg hl]
theorem m_byteG {T : St} {g : Nat → Int32} {i : Nat} (hL : L ≤ 120) (h51 : ∀ i, i < L → T 51 i = b i) (h6 : g 6 = nI L) (hi : i ≤ L) : f_M_byteAt (nI i) (va_up T 46 g) = some (if i < L then b i else -1, va_up T 46 g) :=
  m_byteAt hL (by rw [vu_self]; exact h6) (fun j hj => by rw [vu_ne _ _ (by decide)]; exact h51 j hj) hi
theorem in_m1 {lo up : Int32} (h : (-1 : Int32) < lo) : inB (-1) lo up = false := inB_lo h
theorem m_run71 {T : St} {z : Int32} (hL : L ≤ 120) (h51 : ∀ i, i < L → T 51 i = b i) : ∀ (k n i : Nat) (g : Nat → Int32), i ≤ L → L ≤ i + k → k + 1 ≤ n → g 6 = nI L → g 7 = nI i → ∃ h, f_M_next_L71 n z (va_up T 46 g) = some (va_up T 46 h) ∧ h 7 = nI (er b L 97 122 k i) ∧ ∀ j, j ≠ 7 → h j = g j := by
  intro k
  induction k with
  | zero =>
    intro n i g hi hk hn g6 g7
    obtain ⟨n, rfl⟩ : ∃ n', n = n' + 1 := ⟨n - 1, by omega⟩
    rw [f_M_next_L71, vu_self, g7, m_byteG hL h51 g6 hi, Option.bind_some, m_in, Option.bind_some, if_neg (show ¬ i < L by omega), in_m1 (by decide), if_pos (show bI false = 0 from rfl)]
    exact ⟨g, rfl, g7, fun _ _ => rfl⟩
  | succ k ih =>
    intro n i g hi hk hn g6 g7
    obtain ⟨n, rfl⟩ : ∃ n', n = n' + 1 := ⟨n - 1, by omega⟩
    rw [f_M_next_L71, vu_self, g7, m_byteG hL h51 g6 hi, Option.bind_some, m_in, Option.bind_some, er_s]
    by_cases hl : i < L
    · rw [if_pos hl, if_pos hl]
      by_cases q1 : b i < 97
      · rw [if_pos q1, inB_lo q1, if_pos (show bI false = 0 from rfl)]
        exact ⟨g, rfl, g7, fun _ _ => rfl⟩
      · rw [if_neg q1]
        by_cases q2 : 122 < b i
        · rw [if_pos q2, inB_hi q2, if_pos (show bI false = 0 from rfl)]
          exact ⟨g, rfl, g7, fun _ _ => rfl⟩
        · rw [if_neg q2, inB_iff.mpr ⟨q1, q2⟩, if_neg (show ¬ bI true = 0 by decide)]
          dsimp only
          rw [vu_self, putG, g7, nI_1]
          obtain ⟨h, a1, a2, a3⟩ := ih n (i + 1) (upd g 7 (nI (i + 1))) (by omega) (by omega) (by omega) g6 rfl
          refine ⟨h, a1, a2, fun j hj => ?_⟩
          rw [a3 j hj, upd_app, if_neg hj]
    · rw [if_neg hl, if_neg hl, in_m1 (by decide), if_pos (show bI false = 0 from rfl)]
      exact ⟨g, rfl, g7, fun _ _ => rfl⟩
theorem m_run123 {T : St} {z : Int32} (hL : L ≤ 120) (h51 : ∀ i, i < L → T 51 i = b i) : ∀ (k n i : Nat) (g : Nat → Int32), i ≤ L → L ≤ i + k → k + 1 ≤ n → g 6 = nI L → g 7 = nI i → ∃ h, f_M_next_L123 n z (va_up T 46 g) = some (va_up T 46 h) ∧ h 7 = nI (er b L 48 57 k i) ∧ h 10 = nvM b (er b L 48 57 k i - i) i (g 10) ∧ ∀ j, j ≠ 7 → j ≠ 10 → h j = g j := by
  intro k
  have st0 : ∀ (g : Nat → Int32) (i : Nat), nvM b (i - i) i (g 10) = g 10 := fun g i => by rw [Nat.sub_self]; rfl
  induction k with
  | zero =>
    intro n i g hi hk hn g6 g7
    obtain ⟨n, rfl⟩ : ∃ n', n = n' + 1 := ⟨n - 1, by omega⟩
    rw [f_M_next_L123, vu_self, g7, m_byteG hL h51 g6 hi, Option.bind_some, m_in, Option.bind_some, if_neg (show ¬ i < L by omega), in_m1 (by decide), if_pos (show bI false = 0 from rfl)]
    exact ⟨g, rfl, g7, (st0 g i).symm, fun _ _ _ => rfl⟩
  | succ k ih =>
    intro n i g hi hk hn g6 g7
    obtain ⟨n, rfl⟩ : ∃ n', n = n' + 1 := ⟨n - 1, by omega⟩
    rw [f_M_next_L123, vu_self, g7, m_byteG hL h51 g6 hi, Option.bind_some, m_in, Option.bind_some, er_s]
    by_cases hl : i < L
    · rw [if_pos hl, if_pos hl]
      by_cases q1 : b i < 48
      · rw [if_pos q1, inB_lo q1, if_pos (show bI false = 0 from rfl)]
        exact ⟨g, rfl, g7, (st0 g i).symm, fun _ _ _ => rfl⟩
      · rw [if_neg q1]
        by_cases q2 : 57 < b i
        · rw [if_pos q2, inB_hi q2, if_pos (show bI false = 0 from rfl)]
          exact ⟨g, rfl, g7, (st0 g i).symm, fun _ _ _ => rfl⟩
        · have hge : i + 1 ≤ er b L 48 57 k (i + 1) := er_ge k (i + 1)
          have hcnt : er b L 48 57 k (i + 1) - i = (er b L 48 57 k (i + 1) - (i + 1)) + 1 := by omega
          rw [if_neg q2, inB_iff.mpr ⟨q1, q2⟩, if_neg (show ¬ bI true = 0 by decide)]
          rw [hcnt, nvM_s]
          simp only [vu_self]
          by_cases q3 : g 10 ≤ 9999
          · rw [if_pos q3, if_pos q3, g7, m_byteG hL h51 g6 hi, Option.bind_some, if_pos hl]
            dsimp only
            rw [putG, vu_self, putG]
            have g7' : upd g 10 (10 * g 10 + b i - 48) 7 + 1 = nI (i + 1) := by
              show g 7 + 1 = _
              rw [g7, nI_1]
            rw [g7']
            obtain ⟨h, a1, a2, a3, a4⟩ := ih n (i + 1) (upd (upd g 10 (10 * g 10 + b i - 48)) 7 (nI (i + 1))) (by omega) (by omega) (by omega) g6 rfl
            refine ⟨h, a1, a2, a3, fun j h1 h2 => ?_⟩
            rw [a4 j h1 h2, upd_app, if_neg h1, upd_app, if_neg h2]
          · rw [if_neg q3, if_neg q3, putG, vu_self, putG]
            have g7' : upd g 10 (g 10) 7 + 1 = nI (i + 1) := by
              show g 7 + 1 = _
              rw [g7, nI_1]
            rw [g7']
            obtain ⟨h, a1, a2, a3, a4⟩ := ih n (i + 1) (upd (upd g 10 (g 10)) 7 (nI (i + 1))) (by omega) (by omega) (by omega) g6 rfl
            refine ⟨h, a1, a2, a3, fun j h1 h2 => ?_⟩
            rw [a4 j h1 h2, upd_app, if_neg h1, upd_app, if_neg h2]
    · rw [if_neg hl, if_neg hl, in_m1 (by decide), if_pos (show bI false = 0 from rfl)]
      exact ⟨g, rfl, g7, (st0 g i).symm, fun _ _ _ => rfl⟩
/-- the model's token behind the blanks -/
def nxR (U : St) : Option St := let S3 := put U 46 9 (U 46 7); ((f_M_byteAt (S3 46 7) S3).bind fun q4 => (if 0 ≤ q4.1 then ((f_M_in q4.1 97 122 q4.2).bind fun q6 => (if (bI q6.1) = 0 then ((f_M_in q4.1 48 57 q6.2).bind fun q8 => (if (bI q8.1) = 0 then let x12 : Int32 := (if q4.1 = 59 then 3 else 4); let S13 := put q8.2 46 8 x12; let S14 := put S13 46 7 ((S13 46 7) + 1); some S14 else let S15 := put q8.2 46 8 2; let S16 := put S15 46 10 0; f_M_next_L123   200 q4.1 S16)) else let S26 := put q6.2 46 8 1; f_M_next_L71   200 q4.1 S26)) else let S31 := put q4.2 46 8 0; some S31))
theorem nx_eq {n : Nat} {S : St} : f_M_next_L0 (n + 1) S = ((f_M_byteAt (S 46 7) S).bind fun q1 => (if q1.1 = 32 then f_M_next_L0 n (put q1.2 46 7 ((q1.2 46 7) + 1)) else nxR q1.2)) := by rw [f_M_next_L0]; rfl
theorem i32 : (32 : Int32).toInt = 32 := rfl
theorem eq32 {c : Int32} (h1 : ¬ c < 32) (h2 : ¬ (32 : Int32) < c) : c = 32 := by
  rw [i_lt, i32] at h1 h2
  rw [i_eq, i32]
  omega
theorem m_sp {T : St} (hL : L ≤ 120) (h51 : ∀ i, i < L → T 51 i = b i) : ∀ (k n i : Nat) (g : Nat → Int32), i ≤ L → L ≤ i + k → k + 1 ≤ n → g 6 = nI L → g 7 = nI i → ∃ h, f_M_next_L0 n (va_up T 46 g) = nxR (va_up T 46 h) ∧ h 7 = nI (er b L 32 32 k i) ∧ ∀ j, j ≠ 7 → h j = g j := by
  intro k
  induction k with
  | zero =>
    intro n i g hi hk hn g6 g7
    obtain ⟨n, rfl⟩ : ∃ n', n = n' + 1 := ⟨n - 1, by omega⟩
    rw [nx_eq, vu_self, g7, m_byteG hL h51 g6 hi, Option.bind_some, if_neg (show ¬ i < L by omega), if_neg (show ¬ (-1 : Int32) = 32 by decide)]
    exact ⟨g, rfl, g7, fun _ _ => rfl⟩
  | succ k ih =>
    intro n i g hi hk hn g6 g7
    obtain ⟨n, rfl⟩ : ∃ n', n = n' + 1 := ⟨n - 1, by omega⟩
    rw [nx_eq, vu_self, g7, m_byteG hL h51 g6 hi, Option.bind_some, er_s]
    by_cases hl : i < L
    · rw [if_pos hl, if_pos hl]
      by_cases q1 : b i < 32
      · rw [if_pos q1, if_neg (show ¬ b i = 32 from fun h => by rw [h] at q1; exact absurd q1 (by decide))]
        exact ⟨g, rfl, g7, fun _ _ => rfl⟩
      · rw [if_neg q1]
        by_cases q2 : 32 < b i
        · rw [if_pos q2, if_neg (show ¬ b i = 32 from fun h => by rw [h] at q2; exact absurd q2 (by decide))]
          exact ⟨g, rfl, g7, fun _ _ => rfl⟩
        · rw [if_neg q2, if_pos (eq32 q1 q2)]
          dsimp only
          rw [vu_self, putG, g7, nI_1]
          obtain ⟨h, a1, a2, a3⟩ := ih n (i + 1) (upd g 7 (nI (i + 1))) (by omega) (by omega) (by omega) g6 rfl
          refine ⟨h, a1, a2, fun j hj => ?_⟩
          rw [a3 j hj, upd_app, if_neg hj]
    · rw [if_neg hl, if_neg hl, if_neg (show ¬ (-1 : Int32) = 32 by decide)]
      exact ⟨g, rfl, g7, fun _ _ => rfl⟩
theorem m_next {T : St} {e : Nat} (hL : L ≤ 120) (hb : ∀ i, i < L → 0 ≤ (b i).toInt) (h51 : ∀ i, i < L → T 51 i = b i) (h6 : T 46 6 = nI L) (h7 : T 46 7 = nI e) (he : e ≤ L) : ∃ g, f_M_next T = some (va_up T 46 g) ∧ (∀ j, j < 7 → g j = T 46 j) ∧ g 8 = tC b L (er b L 32 32 120 e) ∧ g 9 = nI (er b L 32 32 120 e) ∧ g 7 = nI (tE b L (er b L 32 32 120 e)) ∧ (tC b L (er b L 32 32 120 e) = 2 → g 10 = nvM b (tE b L (er b L 32 32 120 e) - er b L 32 32 120 e) (er b L 32 32 120 e) 0) := by
  obtain ⟨g, a1, a2, a3⟩ := m_sp (T := T) (b := b) hL h51 120 200 e (T 46) he (by omega) (by omega) h6 h7
  rw [vu_id] at a1
  unfold f_M_next
  rw [a1]
  have hsL : er b L 32 32 120 e ≤ L := er_le 120 e he
  have ak : ∀ j, j < 7 → g j = T 46 j := fun j hj => a3 j (by omega)
  have g6 : g 6 = nI L := (a3 6 (by decide)).trans h6
  generalize er b L 32 32 120 e = s at hsL a2 ⊢
  unfold nxR
  dsimp only
  rw [vu_self, a2, putG, vu_self]
  have u7 : upd g 9 (nI s) 7 = nI s := a2
  rw [u7, m_byteG hL h51 (by exact g6) hsL, Option.bind_some]
  unfold tC tE
  by_cases hs : s < L
  · have h0 : (0 : Int32) ≤ b s := by rw [i_le, i0]; exact hb s hs
    rw [if_pos hs, if_pos hs, if_pos hs]
    simp only [h0, if_true, m_in, Option.bind_some]
    by_cases w0 : inB (b s) 97 122 = true
    · rw [if_neg (show ¬ bI (inB (b s) 97 122) = 0 by rw [w0]; decide), if_pos w0, if_pos w0, putG]
      obtain ⟨h, c1, c2, c3⟩ := m_run71 (T := T) (z := b s) hL h51 120 200 s (upd (upd g 9 (nI s)) 8 1) hsL (by omega) (by omega) g6 a2
      refine ⟨h, c1, fun j hj => ?_, ?_, ?_, c2, fun z => absurd z (by decide)⟩
      · rw [c3 j (by omega), upd_app, if_neg (by omega), upd_app, if_neg (by omega)]
        exact ak j hj
      · rw [c3 8 (by decide)]; rfl
      · rw [c3 9 (by decide)]; rfl
    · have w0' : inB (b s) 97 122 = false := by simpa using w0
      rw [if_pos (show bI (inB (b s) 97 122) = 0 by rw [w0']; rfl), if_neg w0, if_neg w0]
      by_cases w1 : inB (b s) 48 57 = true
      · rw [if_neg (show ¬ bI (inB (b s) 48 57) = 0 by rw [w1]; decide), if_pos w1, if_pos w1, putG, putG]
        obtain ⟨h, c1, c2, c3, c4⟩ := m_run123 (T := T) (z := b s) hL h51 120 200 s (upd (upd (upd g 9 (nI s)) 8 2) 10 0) hsL (by omega) (by omega) g6 a2
        refine ⟨h, c1, fun j hj => ?_, ?_, ?_, c2, fun _ => c3⟩
        · rw [c4 j (by omega) (by omega), upd_app, if_neg (by omega), upd_app, if_neg (by omega), upd_app, if_neg (by omega)]
          exact ak j hj
        · rw [c4 8 (by decide) (by decide)]; rfl
        · rw [c4 9 (by decide) (by decide)]; rfl
      · have w1' : inB (b s) 48 57 = false := by simpa using w1
        rw [if_pos (show bI (inB (b s) 48 57) = 0 by rw [w1']; rfl), if_neg w1, if_neg w1, putG, vu_self, putG]
        have u7' : ∀ x, upd (upd g 9 (nI s)) 8 x 7 = nI s := fun x => a2
        rw [u7', nI_1]
        refine ⟨_, rfl, fun j hj => ?_, rfl, rfl, rfl, fun z => absurd z (by split <;> decide)⟩
        rw [upd_app, if_neg (by omega), upd_app, if_neg (by omega), upd_app, if_neg (by omega)]
        exact ak j hj
  · rw [if_neg hs, if_neg hs, if_neg hs, if_neg (show ¬ (0 : Int32) ≤ -1 by decide), putG]
    refine ⟨_, rfl, fun j hj => ?_, rfl, rfl, a2, fun z => absurd z (by decide)⟩
    rw [upd_app, if_neg (by omega), upd_app, if_neg (by omega)]
    exact ak j hj
/-- where both are on the tape -/
def TR0 (b : Nat → Int32) (L : Nat) (S T : St) (e : Nat) : Prop := S 34 1 = nI L ∧ S 35 = b ∧ T 46 6 = nI L ∧ (∀ i, i < L → T 51 i = b i) ∧ S 34 4 = nI e ∧ T 46 7 = nI e ∧ e ≤ L
def TR (b : Nat → Int32) (L : Nat) (S T : St) (k : Int32) (st e : Nat) : Prop := TR0 b L S T e ∧ st ≤ e ∧ S 34 2 = k ∧ T 46 8 = k ∧ S 34 3 = nI st ∧ T 46 9 = nI st ∧ (k = 2 → vr (S 34 5) (T 46 10))
def TB (b : Nat → Int32) (L : Nat) : Prop := L ≤ 120 ∧ ∀ i, i < L → 0 ≤ (b i).toInt
theorem TR0.of {S T S' T' : St} {e : Nat} (h : TR0 b L S T e) (h1 : S' 34 = S 34) (h2 : S' 35 = S 35) (h3 : T' 46 = T 46) (h4 : T' 51 = T 51) : TR0 b L S' T' e := by
  unfold TR0 at h ⊢
  rw [h1, h2, h3, h4]
  exact h
theorem TR.of {S T S' T' : St} {k : Int32} {st e : Nat} (h : TR b L S T k st e) (h1 : S' 34 = S 34) (h2 : S' 35 = S 35) (h3 : T' 46 = T 46) (h4 : T' 51 = T 51) : TR b L S' T' k st e := by
  refine ⟨h.1.of h1 h2 h3 h4, ?_⟩
  rw [h1, h3]
  exact h.2
theorem tE_ge (s : Nat) : s ≤ tE b L s := by
  unfold tE
  split
  · split
    · exact er_ge _ _
    · split
      · exact er_ge _ _
      · omega
  · exact Nat.le_refl _
theorem tE_le {s : Nat} (h : s ≤ L) : tE b L s ≤ L := by
  unfold tE
  split
  · split
    · exact er_le _ _ h
    · split
      · exact er_le _ _ h
      · omega
  · exact h
theorem tE_gt {s : Nat} (h : ¬ tC b L s = 0) : s < tE b L s := by
  unfold tC at h
  unfold tE
  by_cases hs : s < L
  · rw [if_pos hs]
    by_cases w0 : inB (b s) 97 122 = true
    · rw [if_pos w0]
      exact er_gt hs (inB_iff.mp w0).1 (inB_iff.mp w0).2
    · rw [if_neg w0]
      by_cases w1 : inB (b s) 48 57 = true
      · rw [if_pos w1]
        exact er_gt hs (inB_iff.mp w1).1 (inB_iff.mp w1).2
      · rw [if_neg w1]
        omega
  · rw [if_neg hs] at h
    exact absurd rfl h
theorem tC2 {s : Nat} (h : tC b L s = 2) : tE b L s = er b L 48 57 120 s := by
  unfold tC at h
  unfold tE
  by_cases hs : s < L
  · rw [if_pos hs] at h ⊢
    by_cases w0 : inB (b s) 97 122 = true
    · rw [if_pos w0] at h
      exact absurd h (by decide)
    · rw [if_neg w0] at h ⊢
      by_cases w1 : inB (b s) 48 57 = true
      · rw [if_pos w1]
      · rw [if_neg w1] at h
        exact absurd h (by split <;> decide)
  · rw [if_neg hs] at h
    exact absurd h (by decide)
/-- one token on both sides -/
theorem tk_step {S T : St} {e : Nat} (hB : TB b L) (h : TR0 b L S T e) : ∃ g g2 k st e', f_P_step S = some (va_up S 34 g) ∧ f_M_next T = some (va_up T 46 g2) ∧ (∀ j, j < 7 → g2 j = T 46 j) ∧ TR b L (va_up S 34 g) (va_up T 46 g2) k st e' ∧ e ≤ e' ∧ (¬ k = 0 → e < e') := by
  obtain ⟨h1, h2, h3, h4, h5, h6, h7⟩ := h
  obtain ⟨g, a1, a2, a3, a4, a5, a6⟩ := s_stepT hB.1 h1 h2 h5 h7
  obtain ⟨g2, c1, c2, c3, c4, c5, c6⟩ := m_next hB.1 hB.2 h4 h3 h6 h7
  have hge : e ≤ er b L 32 32 120 e := er_ge 120 e
  have hle : er b L 32 32 120 e ≤ L := er_le 120 e h7
  generalize er b L 32 32 120 e = s at *
  refine ⟨g, g2, tC b L s, s, tE b L s, a1, c1, c2, ⟨⟨?_, ?_, ?_, ?_, ?_, ?_, tE_le hle⟩, tE_ge s, ?_, ?_, ?_, ?_, fun z => ?_⟩, Nat.le_trans hge (tE_ge s), fun z => Nat.lt_of_le_of_lt hge (tE_gt z)⟩
  · rw [vu_self]; exact a2
  · rw [vu_ne _ _ (by decide)]; exact h2
  · rw [vu_self, c2 6 (by decide)]; exact h3
  · intro i hi; rw [vu_ne _ _ (by decide)]; exact h4 i hi
  · rw [vu_self]; exact a5
  · rw [vu_self]; exact c5
  · rw [vu_self]; exact a3
  · rw [vu_self]; exact c3
  · rw [vu_self]; exact a4
  · rw [vu_self]; exact c4
  · rw [vu_self, vu_self, a6 z, c6 z, tC2 z]
    refine vr_num _ _ 0 0 (fun j q1 q2 => er_in (L := L) 120 s j q1 ?_) (Or.inl ⟨rfl, by decide, by decide⟩)
    have := er_ge (b := b) (L := L) (lo := 48) (up := 57) 120 s
    omega
end NEXT
