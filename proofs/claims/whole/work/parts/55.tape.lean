/-! ===== the tape: runs of bytes, tokens ===== -/
section TAPE
variable {b : Nat → Int32} {L : Nat}
/-- where a run of bytes from lo to up ends -/
def er (b : Nat → Int32) (L : Nat) (lo up : Int32) : Nat → Nat → Nat
  | 0, i => i
  | k + 1, i => if i < L then (if b i < lo then i else if up < b i then i else er b L lo up k (i + 1)) else i
theorem er_s {lo up : Int32} {k i : Nat} : er b L lo up (k + 1) i = if i < L then (if b i < lo then i else if up < b i then i else er b L lo up k (i + 1)) else i := by rw [er]
theorem er_ge {lo up : Int32} : ∀ (k i : Nat), i ≤ er b L lo up k i := by
  intro k
  induction k with
  | zero => intro i; exact Nat.le_refl _
  | succ k ih =>
    intro i
    rw [er_s]
    split
    · split
      · exact Nat.le_refl _
      · split
        · exact Nat.le_refl _
        · exact Nat.le_trans (Nat.le_succ i) (ih (i + 1))
    · exact Nat.le_refl _
theorem er_le {lo up : Int32} : ∀ (k i : Nat), i ≤ L → er b L lo up k i ≤ L := by
  intro k
  induction k with
  | zero => intro i h; exact h
  | succ k ih =>
    intro i h
    rw [er_s]
    split
    · split
      · exact h
      · split
        · exact h
        · exact ih (i + 1) (by omega)
    · exact h
theorem er_in {lo up : Int32} : ∀ (k i j : Nat), i ≤ j → j < er b L lo up k i → ¬ b j < lo ∧ ¬ up < b j := by
  intro k
  induction k with
  | zero =>
    intro i j h1 h2
    have h3 : er b L lo up 0 i = i := rfl
    omega
  | succ k ih =>
    intro i j h1 h2
    rw [er_s] at h2
    by_cases hl : i < L
    · rw [if_pos hl] at h2
      by_cases q1 : b i < lo
      · rw [if_pos q1] at h2; omega
      · rw [if_neg q1] at h2
        by_cases q2 : up < b i
        · rw [if_pos q2] at h2; omega
        · rw [if_neg q2] at h2
          by_cases e : j = i
          · rw [e]; exact ⟨q1, q2⟩
          · exact ih (i + 1) j (by omega) h2
    · rw [if_neg hl] at h2; omega
/-- a run that begins goes on -/
theorem er_gt {lo up : Int32} {k i : Nat} (hl : i < L) (h1 : ¬ b i < lo) (h2 : ¬ up < b i) : i < er b L lo up (k + 1) i := by
  rw [er_s, if_pos hl, if_neg h1, if_neg h2]
  exact er_ge k (i + 1)
theorem s_run {S : St} {y lo up : Int32} (hL : L ≤ 120) (h1 : S 34 1 = nI L) (h35 : S 35 = b) : ∀ (k n i : Nat), i ≤ L → L ≤ i + k → k + 1 ≤ n → f_P_endOfRun_L7 n y lo up (nI i) S = some (nI (er b L lo up k i), S) := by
  intro k
  induction k with
  | zero =>
    intro n i hi hk hn
    obtain ⟨n, rfl⟩ : ∃ n', n = n' + 1 := ⟨n - 1, by omega⟩
    have e : i = L := by omega
    rw [f_P_endOfRun_L7, h1, if_pos (nI_le (by omega) (by omega))]
    rfl
  | succ k ih =>
    intro n i hi hk hn
    obtain ⟨n, rfl⟩ : ∃ n', n = n' + 1 := ⟨n - 1, by omega⟩
    rw [f_P_endOfRun_L7, er_s, h1, h35]
    by_cases hl : i < L
    · have h120 : ¬ (120 : Int32) ≤ nI i := nI_ge (b := 120) (by omega) (by decide)
      rw [if_neg (nI_ge hl (by omega)), if_neg h120, if_pos (inb_n (by omega) (by omega)), nI_clamp (by omega), if_pos hl]
      by_cases q1 : b i < lo
      · rw [if_pos q1, if_pos q1]
      · rw [if_neg q1, if_neg q1]
        by_cases q2 : up < b i
        · rw [if_pos q2, if_pos q2]
        · rw [if_neg q2, if_neg q2, nI_1]
          exact ih n (i + 1) (by omega) (by omega) (by omega)
    · rw [if_pos (nI_le (by omega) (by omega)), if_neg hl]
theorem s_endOfRun {S : St} {lo up : Int32} {i : Nat} (hL : L ≤ 120) (h1 : S 34 1 = nI L) (h35 : S 35 = b) (hi : i ≤ L) : f_P_endOfRun (nI i) lo up S = some (nI (er b L lo up 120 i), S) := by
  have e : (if 0 < nI i then nI i else 0) = nI i := by
    by_cases h0 : i = 0
    · subst h0; rfl
    · have : (0 : Int32) < nI i := nI_lt (a := 0) (by omega) (by omega)
      rw [if_pos this]
  unfold f_P_endOfRun
  dsimp only
  rw [e]
  exact s_run hL h1 h35 120 200 i hi (by omega) (by omega)
def nvS (b : Nat → Int32) : Nat → Nat → Int32 → Int32
  | 0, _, x => x
  | m + 1, i, x => nvS b m (i + 1) (if x * 10 + b i - 48 < 10000 then x * 10 + b i - 48 else 10000)
def nvM (b : Nat → Int32) : Nat → Nat → Int32 → Int32
  | 0, _, y => y
  | m + 1, i, y => nvM b m (i + 1) (if y ≤ 9999 then 10 * y + b i - 48 else y)
theorem nvS_s {m i : Nat} {x : Int32} : nvS b (m + 1) i x = nvS b m (i + 1) (if x * 10 + b i - 48 < 10000 then x * 10 + b i - 48 else 10000) := by rw [nvS]
theorem nvM_s {m i : Nat} {x : Int32} : nvM b (m + 1) i x = nvM b m (i + 1) (if x ≤ 9999 then 10 * x + b i - 48 else x) := by rw [nvM]
theorem s_num {S : St} {e : Nat} (he : e ≤ 120) (h4 : S 34 4 = nI e) (h35 : S 35 = b) : ∀ (m n i : Nat) (x : Int32), i + m = e → m + 1 ≤ n → f_P_numberRead_L7 n x (nI i) S = some (nvS b m i x, S) := by
  intro m
  induction m with
  | zero =>
    intro n i x hi hn
    obtain ⟨n, rfl⟩ : ∃ n', n = n' + 1 := ⟨n - 1, by omega⟩
    rw [f_P_numberRead_L7, h4, if_pos (nI_le (by omega) (by omega))]
    rfl
  | succ m ih =>
    intro n i x hi hn
    obtain ⟨n, rfl⟩ : ∃ n', n = n' + 1 := ⟨n - 1, by omega⟩
    rw [f_P_numberRead_L7, h4, if_neg (nI_ge (by omega) (by omega)), if_pos (inb_n (by omega) (by omega)), nI_clamp (by omega), h35, nI_1, nvS_s]
    exact ih n (i + 1) _ (by omega) (by omega)
/-- a number as the class has it, and as the model has it -/
def vr (x y : Int32) : Prop := (x = y ∧ 0 ≤ y.toInt ∧ y.toInt ≤ 9999) ∨ (x = 10000 ∧ 10000 ≤ y.toInt)
theorem i48 : (48 : Int32).toInt = 48 := rfl
theorem i57 : (57 : Int32).toInt = 57 := rfl
theorem i10 : (10 : Int32).toInt = 10 := rfl
theorem i9999 : (9999 : Int32).toInt = 9999 := rfl
theorem i10000 : (10000 : Int32).toInt = 10000 := rfl
theorem vr_step {x y c : Int32} (h : vr x y) (h1 : ¬ c < 48) (h2 : ¬ (57 : Int32) < c) : vr (if x * 10 + c - 48 < 10000 then x * 10 + c - 48 else 10000) (if y ≤ 9999 then 10 * y + c - 48 else y) := by
  rw [i_lt, i48] at h1
  rw [i_lt, i57] at h2
  rcases h with ⟨rfl, a1, a2⟩ | ⟨rfl, a1⟩
  · have e0 : (x * 10).toInt = x.toInt * 10 := by rw [i_mul (by rw [i10]; omega) (by rw [i10]; omega), i10]
    have e0' : (10 * x).toInt = 10 * x.toInt := by rw [i_mul (by rw [i10]; omega) (by rw [i10]; omega), i10]
    have e1 : (x * 10 + c).toInt = x.toInt * 10 + c.toInt := by rw [i_add (by rw [e0]; omega) (by rw [e0]; omega), e0]
    have e1' : (10 * x + c).toInt = 10 * x.toInt + c.toInt := by rw [i_add (by rw [e0']; omega) (by rw [e0']; omega), e0']
    have e2 : (x * 10 + c - 48).toInt = x.toInt * 10 + c.toInt - 48 := by rw [i_sub (by rw [e1, i48]; omega) (by rw [e1, i48]; omega), e1, i48]
    have e2' : (10 * x + c - 48).toInt = 10 * x.toInt + c.toInt - 48 := by rw [i_sub (by rw [e1', i48]; omega) (by rw [e1', i48]; omega), e1', i48]
    have ex : x * 10 + c - 48 = 10 * x + c - 48 := (i_eq _ _).mpr (by rw [e2, e2']; omega)
    rw [if_pos (show x ≤ 9999 by rw [i_le, i9999]; exact a2), ex]
    by_cases q : 10 * x + c - 48 < 10000
    · rw [if_pos q]
      rw [i_lt, e2', i10000] at q
      exact Or.inl ⟨rfl, by rw [e2']; omega, by rw [e2']; omega⟩
    · rw [if_neg q]
      rw [i_lt, e2', i10000] at q
      exact Or.inr ⟨rfl, by rw [e2']; omega⟩
  · have e1 : ((10000 : Int32) * 10 + c).toInt = 100000 + c.toInt := by
      rw [i_add (by rw [show ((10000 : Int32) * 10).toInt = 100000 from rfl]; omega) (by rw [show ((10000 : Int32) * 10).toInt = 100000 from rfl]; omega)]
      rfl
    have e2 : ((10000 : Int32) * 10 + c - 48).toInt = 100000 + c.toInt - 48 := by rw [i_sub (by rw [e1, i48]; omega) (by rw [e1, i48]; omega), e1, i48]
    rw [if_neg (show ¬ (10000 : Int32) * 10 + c - 48 < 10000 by rw [i_lt, e2, i10000]; omega), if_neg (show ¬ y ≤ 9999 by rw [i_le, i9999]; omega)]
    exact Or.inr ⟨rfl, a1⟩
theorem vr_num : ∀ (m i : Nat) (x y : Int32), (∀ j, i ≤ j → j < i + m → ¬ b j < 48 ∧ ¬ (57 : Int32) < b j) → vr x y → vr (nvS b m i x) (nvM b m i y) := by
  intro m
  induction m with
  | zero => intro i x y _ h; exact h
  | succ m ih =>
    intro i x y hb h
    rw [nvS_s, nvM_s]
    have h0 := hb i (Nat.le_refl _) (by omega)
    exact ih (i + 1) _ _ (fun j h1 h2 => hb j (by omega) (by omega)) (vr_step h h0.1 h0.2)
theorem putG {S : St} {c j : Nat} {G : Nat → Int32} {x : Int32} : put (va_up S c G) c j x = va_up S c (upd G j x) := by rw [put_vu, vu_self, bx_uu]
/-- a token's kind by where it begins, and where it ends -/
def tC (b : Nat → Int32) (L s : Nat) : Int32 := if s < L then (if inB (b s) 97 122 = true then 1 else if inB (b s) 48 57 = true then 2 else if b s = 59 then 3 else 4) else 0
def tE (b : Nat → Int32) (L s : Nat) : Nat := if s < L then (if inB (b s) 97 122 = true then er b L 97 122 120 s else if inB (b s) 48 57 = true then er b L 48 57 120 s else s + 1) else s
theorem s_stepT {S : St} {e : Nat} (hL : L ≤ 120) (h1 : S 34 1 = nI L) (h35 : S 35 = b) (h4 : S 34 4 = nI e) (he : e ≤ L) : ∃ g, f_P_step S = some (va_up S 34 g) ∧ g 1 = nI L ∧ g 2 = tC b L (er b L 32 32 120 e) ∧ g 3 = nI (er b L 32 32 120 e) ∧ g 4 = nI (tE b L (er b L 32 32 120 e)) ∧ (tC b L (er b L 32 32 120 e) = 2 → g 5 = nvS b (tE b L (er b L 32 32 120 e) - er b L 32 32 120 e) (er b L 32 32 120 e) 0) := by
  unfold f_P_step
  rw [h4, s_endOfRun hL h1 h35 he, Option.bind_some]
  have hsL : er b L 32 32 120 e ≤ L := er_le 120 e he
  generalize er b L 32 32 120 e = s at hsL ⊢
  dsimp only
  have e2 : put S 34 3 (nI s) 34 3 = nI s := rfl
  have e3 : put (put S 34 3 (nI s)) 34 4 (nI s) = va_up S 34 (upd (upd (S 34) 3 (nI s)) 4 (nI s)) := by rw [put_vu, put_vu, vu_self, bx_uu]
  rw [e2, e3]
  have g1 : upd (upd (S 34) 3 (nI s)) 4 (nI s) 1 = nI L := h1
  have g3 : upd (upd (S 34) 3 (nI s)) 4 (nI s) 3 = nI s := rfl
  have g4 : upd (upd (S 34) 3 (nI s)) 4 (nI s) 4 = nI s := rfl
  generalize upd (upd (S 34) 3 (nI s)) 4 (nI s) = G at g1 g3 g4 ⊢
  have v35 : ∀ g, va_up S 34 g 35 = b := fun g => by rw [vu_ne _ _ (by decide)]; exact h35
  simp only [putG, vu_self, g1, g3, v35]
  unfold tC tE
  by_cases hs : s < L
  · have h120 : nI s < 120 := nI_lt (b := 120) (by omega) (by decide)
    rw [if_neg (nI_ge hs (by omega)), if_pos h120, if_pos (inb_n (by omega) (by omega)), nI_clamp (by omega), if_pos hs, if_pos hs]
    have kk : ∀ (g : Nat → Int32) (lo up : Int32), g 1 = nI L → f_P_endOfRun (nI s) lo up (va_up S 34 g) = some (nI (er b L lo up 120 s), va_up S 34 g) := fun g lo up hg => s_endOfRun hL (by rw [vu_self]; exact hg) (v35 g) hsL
    have num : ∃ g, (((f_P_endOfRun (nI s) 48 57 (va_up S 34 (upd G 2 2))).bind fun q24 => (f_P_numberRead (put q24.2 34 4 q24.1)).bind fun q26 => some (put q26.2 34 5 q26.1)) : Option St) = some (va_up S 34 g) ∧ g 1 = nI L ∧ g 2 = 2 ∧ g 3 = nI s ∧ g 4 = nI (er b L 48 57 120 s) ∧ g 5 = nvS b (er b L 48 57 120 s - s) s 0 := by
      rw [kk _ _ _ (by exact g1), Option.bind_some, putG]
      have hle : er b L 48 57 120 s ≤ L := er_le 120 s hsL
      have hge : s ≤ er b L 48 57 120 s := er_ge 120 s
      generalize er b L 48 57 120 s = t at hle hge ⊢
      have e5 : f_P_numberRead (va_up S 34 (upd (upd G 2 2) 4 (nI t))) = some (nvS b (t - s) s 0, va_up S 34 (upd (upd G 2 2) 4 (nI t))) := by
        unfold f_P_numberRead
        have : va_up S 34 (upd (upd G 2 2) 4 (nI t)) 34 3 = nI s := by rw [vu_self]; exact g3
        rw [this]
        exact s_num (e := t) (by omega) (by rw [vu_self]; rfl) (v35 _) (t - s) 200 s 0 (by omega) (by omega)
      rw [e5, Option.bind_some, putG]
      exact ⟨_, rfl, g1, rfl, g3, rfl, rfl⟩
    have oth : ∃ g, (some (put (put (va_up S 34 G) 34 2 (if b s = 59 then 3 else 4)) 34 4 (nI s + 1)) : Option St) = some (va_up S 34 g) ∧ g 1 = nI L ∧ g 2 = (if b s = 59 then 3 else 4) ∧ g 3 = nI s ∧ g 4 = nI (s + 1) := by
      rw [putG, putG, nI_1]
      exact ⟨_, rfl, g1, rfl, g3, rfl⟩
    have hn3 : ¬ (if b s = 59 then (3 : Int32) else 4) = 2 := by split <;> decide
    have gu : ∀ x, upd G 2 x 3 = nI s := fun x => g3
    simp only [gu]
    by_cases q1 : b s < 97
    · have w0 : ¬ inB (b s) 97 122 = true := by rw [inB_lo q1]; decide
      rw [if_pos q1, if_neg w0, if_neg w0]
      by_cases q2 : b s < 48
      · have w1 : ¬ inB (b s) 48 57 = true := by rw [inB_lo q2]; decide
        rw [if_pos q2, if_neg w1, if_neg w1]
        obtain ⟨g, a1, a2, a3, a4, a5⟩ := oth
        simp only [putG] at a1
        exact ⟨g, a1, a2, a3, a4, a5, fun z => absurd z hn3⟩
      · rw [if_neg q2]
        by_cases q3 : 57 < b s
        · have w1 : ¬ inB (b s) 48 57 = true := by rw [inB_hi q3]; decide
          rw [if_pos q3, if_neg w1, if_neg w1]
          obtain ⟨g, a1, a2, a3, a4, a5⟩ := oth
          simp only [putG] at a1
          exact ⟨g, a1, a2, a3, a4, a5, fun z => absurd z hn3⟩
        · have w1 : inB (b s) 48 57 = true := inB_iff.mpr ⟨q2, q3⟩
          rw [if_neg q3, if_pos w1, if_pos w1]
          obtain ⟨g, a1, a2, a3, a4, a5, a6⟩ := num
          exact ⟨g, a1, a2, a3, a4, a5, fun _ => a6⟩
    · rw [if_neg q1]
      by_cases q0 : 122 < b s
      · have w0 : ¬ inB (b s) 97 122 = true := by rw [inB_hi q0]; decide
        rw [if_pos q0, if_neg w0, if_neg w0]
        have q2 : ¬ b s < 48 := by rw [i_lt, i48]; rw [i_lt, show (97 : Int32).toInt = 97 from rfl] at q1; omega
        have q3 : 57 < b s := by rw [i_lt, i57]; rw [i_lt, show (97 : Int32).toInt = 97 from rfl] at q1; omega
        have w1 : ¬ inB (b s) 48 57 = true := by rw [inB_hi q3]; decide
        rw [if_neg q2, if_pos q3, if_neg w1, if_neg w1]
        obtain ⟨g, a1, a2, a3, a4, a5⟩ := oth
        simp only [putG] at a1
        exact ⟨g, a1, a2, a3, a4, a5, fun z => absurd z hn3⟩
      · have w0 : inB (b s) 97 122 = true := inB_iff.mpr ⟨q1, q0⟩
        rw [if_neg q0, if_pos w0, if_pos w0, kk _ _ _ (by exact g1), Option.bind_some, putG]
        exact ⟨_, rfl, g1, rfl, g3, rfl, fun z => absurd z (by decide)⟩
  · rw [if_pos (nI_le (by omega) (by omega)), if_neg hs, if_neg hs]
    exact ⟨_, rfl, g1, rfl, g3, g4, fun z => absurd z (by decide)⟩
end TAPE
