/-! ===== best, the model's side ===== -/
section METH18
variable {N : Int} {S : St}
theorem m_row7 {y1 y2 : Int32} : ∀ (m f x : Nat) (S : St), m ≤ 3 → m + 2 ≤ f → x < 1000 → ∃ (x2 : Int32) (R : Nat → Int32), f_M_doesRow_L7 f y1 y2 (nI x) (nI m - 1) S = f_M_doesRow_L40 200 y1 y2 x2 true 0 (va_up S 52 R) ∧ (∀ i, i < m → R i = nI (x / 8 ^ (m - 1 - i) % 8)) ∧ (∀ i, m ≤ i → R i = S 52 i) := by
  intro m
  induction m with
  | zero =>
    intro f x S hm hf hx
    obtain ⟨f, rfl⟩ : ∃ n', f = n' + 1 := ⟨f - 1, by omega⟩
    refine ⟨nI x, S 52, ?_, fun i hi => by omega, fun _ _ => rfl⟩
    rw [f_M_doesRow_L7, if_pos (show nI 0 - 1 < 0 by decide), vu_id]
  | succ m ih =>
    intro f x S hm hf hx
    obtain ⟨f, rfl⟩ : ∃ n', f = n' + 1 := ⟨f - 1, by omega⟩
    have er : nI x - nI x / 8 * 8 = nI (x % 8) := pk_rem (d := 8) (by omega) (by omega) (by omega)
    have ed : nI x / 8 = nI (x / 8) := pk_div (d := 8) (by omega) (by omega) (by omega)
    obtain ⟨x2, R, e1, e2, e3⟩ := ih f (x / 8) (put S 52 m (nI (x % 8))) (by omega) (by omega) (by omega)
    refine ⟨x2, R, ?_, ?_, ?_⟩
    · rw [f_M_doesRow_L7, nI_pre, if_neg (nI_pos (by omega)), if_pos (inb_n (show m < 3 by omega) (by omega)), nI_clamp (show m < 2 ^ 31 by omega), er, ed, nI_m1]
      dsimp only
      rw [e1, put_vu, bx_uu]
    · intro i hi
      by_cases him : i = m
      · subst him
        rw [e3 i (by omega), put_vu, vu_self, upd_app, if_pos rfl, show i + 1 - 1 - i = 0 by omega, Nat.pow_zero, Nat.div_one]
      · rw [e2 i (by omega), Nat.div_div_eq_div_mul, show m + 1 - 1 - i = (m - 1 - i) + 1 by omega, Nat.pow_succ, Nat.mul_comm]
    · intro i hi
      rw [e3 i (by omega), put_vu, vu_self, upd_app, if_neg (by omega)]
def runD (fm : Nat → Int32) (d : Nat → Nat) : Nat → Nat → (Nat → Int32) → Bool × (Nat → Int32)
  | 0, _, b => (true, b)
  | m + 1, j, b => if canB b (nI (d j)) = true then runD fm d m (j + 1) (carV fm b (nI (d j))) else (false, b)
theorem runD_s {fm : Nat → Int32} {d : Nat → Nat} {m j : Nat} {b : Nat → Int32} : runD fm d (m + 1) j b = if canB b (nI (d j)) = true then runD fm d m (j + 1) (carV fm b (nI (d j))) else (false, b) := by rw [runD]
theorem m_row40 {T : St} {y2 y3 : Int32} {d : Nat → Nat} {fm : Nat → Int32} {n : Nat} (hn : n ≤ 3) (hd : ∀ i, d i < 8) (hT : ∀ i, i < n → T 52 i = nI (d i)) : ∀ (m f j : Nat) (b : Nat → Int32) (N : Int), j + m = n → m + 3 ≤ f → Bd b N → N + 1440 * m < 1999000000 → (∀ i, b (12 + i) = fm i) → f_M_doesRow_L40 f (nI n) y2 y3 true (nI j) (va_up T 47 b) = some ((runD fm d m j b).1, va_up T 47 (runD fm d m j b).2) := by
  intro m
  induction m with
  | zero =>
    intro f j b N hj hf hb hN hfm
    obtain ⟨f, rfl⟩ : ∃ n', f = n' + 1 := ⟨f - 1, by omega⟩
    have : j = n := by omega
    subst this
    rw [f_M_doesRow_L40, if_pos (nI_le (Nat.le_refl _) (by omega))]
    rfl
  | succ m ih =>
    intro f j b N hj hf hb hN hfm
    obtain ⟨f, rfl⟩ : ∃ n', f = n' + 1 := ⟨f - 1, by omega⟩
    have hk : 0 ≤ nI (d j) ∧ nI (d j) < 8 := ⟨nI_pos' (by have := hd j; omega), nI_lt (b := 8) (hd j) (by decide)⟩
    obtain ⟨e1, e2⟩ := m_carT (S := T) hk hb (by omega)
    have efm : (fun i => b (12 + i)) = fm := funext hfm
    rw [f_M_doesRow_L40, if_neg (nI_ge (by omega) (by omega)), bI_t, if_neg (show ¬ (1 : Int32) = 0 by decide), if_pos (inb_n (show j < 3 by omega) (by omega)), nI_clamp (show j < 2 ^ 31 by omega), vu_ne _ _ (by decide), hT j (by omega), e1, Option.bind_some, runD_s]
    simp only [bI_0]
    by_cases hc : canB b (nI (d j)) = true
    · rw [if_neg (by rw [hc]; decide), if_pos hc, vu_ne _ _ (by decide), hT j (by omega), e2, Option.bind_some, efm, hc, ← nI_succ]
      exact ih f (j + 1) _ (N + 1440) (by omega) (by omega) (Bd_car hb (by omega)) (by omega) (fun i => (car_hi (by omega)).trans (hfm i))
    · have hc' : canB b (nI (d j)) = false := by simpa using hc
      rw [if_pos hc', if_neg hc, hc']
      obtain ⟨f, rfl⟩ : ∃ n', f = n' + 1 := ⟨f - 1, by omega⟩
      rw [f_M_doesRow_L40, bI_f, if_pos (show (0 : Int32) = 0 by decide), ite_self]
theorem runD_V {fm : Nat → Int32} {d : Nat → Nat} {n w : Nat} {b : Nat → Int32} (hn : n = 1 ∨ n = 2 ∨ n = 3) (hw : w < 8 ^ n) (hd : ∀ i, i < n → d i = w / 8 ^ (n - 1 - i) % 8) : match runV fm n b w with | some x => runD fm d n 0 b = (true, x) | none => (runD fm d n 0 b).1 = false := by
  rcases hn with rfl | rfl | rfl
  · have d0 : d 0 = w / 8 ^ 0 := by rw [hd 0 (by omega)]; show w / 1 % 8 = w / 1; omega
    rw [runV, runD_s, d0]
    by_cases h0 : canB b (nI (w / 8 ^ 0)) = true
    · rw [if_pos h0, if_pos h0]; rfl
    · rw [if_neg h0, if_neg h0]
  · have d0 : d 0 = w / 8 ^ 1 := by rw [hd 0 (by omega)]; show w / 8 % 8 = w / 8; omega
    have d1 : d (0 + 1) = w % 8 ^ 1 / 8 ^ 0 := by rw [hd 1 (by omega)]; show w / 1 % 8 = w % 8 / 1; omega
    rw [runV, runD_s, d0]
    by_cases h0 : canB b (nI (w / 8 ^ 1)) = true
    · rw [if_pos h0, if_pos h0, runV, runD_s, d1]
      by_cases h1 : canB (carV fm b (nI (w / 8 ^ 1))) (nI (w % 8 ^ 1 / 8 ^ 0)) = true
      · rw [if_pos h1, if_pos h1]; rfl
      · rw [if_neg h1, if_neg h1]
    · rw [if_neg h0, if_neg h0]
  · have d0 : d 0 = w / 8 ^ 2 := by rw [hd 0 (by omega)]; show w / 64 % 8 = w / 64; omega
    have d1 : d (0 + 1) = w % 8 ^ 2 / 8 ^ 1 := by rw [hd 1 (by omega)]; show w / 8 % 8 = w % 64 / 8; omega
    have d2 : d (0 + 1 + 1) = w % 8 ^ 2 % 8 ^ 1 / 8 ^ 0 := by rw [hd 2 (by omega)]; show w / 1 % 8 = w % 64 % 8 / 1; omega
    rw [runV, runD_s, d0]
    by_cases h0 : canB b (nI (w / 8 ^ 2)) = true
    · rw [if_pos h0, if_pos h0, runV, runD_s, d1]
      by_cases h1 : canB (carV fm b (nI (w / 8 ^ 2))) (nI (w % 8 ^ 2 / 8 ^ 1)) = true
      · rw [if_pos h1, if_pos h1, runV, runD_s, d2]
        by_cases h2 : canB (carV fm (carV fm b (nI (w / 8 ^ 2))) (nI (w % 8 ^ 2 / 8 ^ 1))) (nI (w % 8 ^ 2 % 8 ^ 1 / 8 ^ 0)) = true
        · rw [if_pos h2, if_pos h2]; rfl
        · rw [if_neg h2, if_neg h2]
      · rw [if_neg h1, if_neg h1]
    · rw [if_neg h0, if_neg h0]
theorem runV_ag {fm fm2 : Nat → Int32} (hf : agF fm fm2) : ∀ (l : Nat) (a b : Nat → Int32) (w : Nat), ag a b → (runV fm l a w = none ∧ runV fm2 l b w = none) ∨ ∃ x y, runV fm l a w = some x ∧ runV fm2 l b w = some y ∧ ag x y := by
  intro l
  induction l with
  | zero => intro a b w h; exact Or.inr ⟨a, b, rfl, rfl, h⟩
  | succ l ih =>
    intro a b w h
    rw [runV, runV, can_ag h]
    split
    · exact ih _ _ _ (car_ag hf h _)
    · exact Or.inl ⟨rfl, rfl⟩
def Mr (S T : St) : Prop := (∀ c, c ≠ 47 → c ≠ 49 → c ≠ 52 → T c = S c) ∧ ∀ i, i < 92 → T 47 i = S 47 i
def Om (n : Nat) (o : Bo) (y4 y5 y6 : Int32) : Prop := match o with
  | none => y4 < 0
  | some (g, d, w) => y4 = nI w ∧ y5 = g ∧ y6 = d ∧ w < 8 ^ n
def ansM (p2 : Int32) (o : Bo) (W : St) : Option (Int32 × St) := match o with
  | none => some ((-1000001) - 3, fnM 3 W)
  | some (g, d, w) => some ((if p2 = 0 then g else (if p2 = 1 then d else nI (dg w))), W)
theorem m_digits {n w : Nat} (hn : n = 1 ∨ n = 2 ∨ n = 3) (hw : w < 8 ^ n) : f_M_digits (nI n) (nI w) S = some (nI (dg w), S) := by
  have hw5 : w < 512 := by
    rcases hn with rfl | rfl | rfl
    · have : (8 : Nat) ^ 1 = 8 := rfl
      omega
    · have : (8 : Nat) ^ 2 = 64 := rfl
      omega
    · have : (8 : Nat) ^ 3 = 512 := rfl
      omega
  have er : nI w - nI w / 8 * 8 = nI (w % 8) := pk_rem (d := 8) (by omega) (by omega) (by omega)
  have ed : nI w / 8 = nI (w / 8) := pk_div (d := 8) (by omega) (by omega) (by omega)
  have ed64 : nI w / 64 = nI (w / 64) := pk_div (d := 64) (by omega) (by omega) (by omega)
  have er2 : nI (w / 8) - nI (w / 8) / 8 * 8 = nI (w / 8 % 8) := pk_rem (d := 8) (by omega) (by omega) (by omega)
  unfold f_M_digits
  rcases hn with rfl | rfl | rfl
  · have h1 : w < 8 := hw
    rw [if_pos (show nI 1 = 1 from rfl)]
    have : dg w = w := by unfold dg; omega
    rw [this]
  · have h1 : w < 64 := hw
    rw [if_neg (show ¬ nI 2 = 1 by decide), if_pos (show nI 2 = 2 from rfl), er, ed, show (10 : Int32) = nI 10 from rfl, pk_mul, nI_add]
    have : dg w = w / 8 * 10 + w % 8 := by unfold dg; omega
    rw [this]
  · rw [if_neg (show ¬ nI 3 = 1 by decide), if_neg (show ¬ nI 3 = 2 by decide), er, ed, er2, ed64, show (10 : Int32) = nI 10 from rfl, show (100 : Int32) = nI 100 from rfl, pk_mul, pk_mul, nI_add, nI_add]
    rfl
theorem m_best_loop {n : Nat} {p2 : Int32} {a fm : Nat → Int32} (hn : n = 1 ∨ n = 2 ∨ n = 3) (hag : ag (S 47) a) (hf : agF (fun i => S 47 (12 + i)) fm) (hb : Bd a N) (hN : N < 1900000000) : ∀ (m f j : Nat) (o : Bo) (y4 y5 y6 : Int32) (T : St), j + m = 8 ^ n → m + 2 ≤ f → Mr S T → Om n o y4 y5 y6 → ∃ W, f_M_best_L60 f (nI n) p2 (nI (8 ^ n)) y4 y5 y6 (nI j) T = ansM p2 (kf (fun w o => stpO a (runV fm n a w) (0 * 8 ^ n + w) o) m j o) W ∧ Mr S W := by
  have hn3 : n ≤ 3 := by omega
  have h512 : 8 ^ n ≤ 512 := by
    rcases hn with rfl | rfl | rfl <;> decide
  intro m
  induction m with
  | zero =>
    intro f j o y4 y5 y6 T hj hff hT hO
    obtain ⟨f, rfl⟩ : ∃ n', f = n' + 1 := ⟨f - 1, by omega⟩
    have : j = 8 ^ n := by omega
    subst this
    refine ⟨T, ?_, hT⟩
    rw [f_M_best_L60, if_pos (nI_le (Nat.le_refl _) (by omega))]
    cases o with
    | none =>
      have h4 : ¬ 0 ≤ y4 := Int32.not_le.mpr hO
      rw [if_neg h4, m_f3]
      rfl
    | some x =>
      obtain ⟨g, d, w⟩ := x
      obtain ⟨rfl, rfl, rfl, hw⟩ := hO
      rw [if_pos (nI_pos' (by omega)), m_digits hn hw]
      show _ = some ((if p2 = 0 then y5 else (if p2 = 1 then y6 else nI (dg w))), T)
      by_cases h0 : p2 = 0
      · rw [if_pos h0, if_pos h0]
      · rw [if_neg h0, if_neg h0]
        by_cases h1 : p2 = 1
        · rw [if_pos h1, if_pos h1]
        · rw [if_neg h1, if_neg h1]
          rfl
  | succ m ih =>
    intro f j o y4 y5 y6 T hj hff hT hO
    obtain ⟨f, rfl⟩ : ∃ n', f = n' + 1 := ⟨f - 1, by omega⟩
    have hagT : ag (T 47) a := fun i hi => (hT.2 i (by omega)).trans (hag i hi)
    have hfT : agF (fun i => T 47 (12 + i)) fm := fun i hi => (hT.2 (12 + i) (by omega)).trans (hf i hi)
    have hbT := Bd_ag hagT.sy hb
    obtain ⟨x2, R, er, hR1, hR2⟩ := m_row7 (y1 := nI n) (y2 := nI j) n 200 j (bgM T) hn3 (by omega) (by omega)
    have e40 := m_row40 (T := va_up (bgM T) 52 R) (y2 := nI j) (y3 := x2) (d := fun i => j / 8 ^ (n - 1 - i) % 8) (fm := fun i => T 47 (12 + i)) hn3 (fun i => Nat.mod_lt _ (by decide)) (fun i hi => by rw [vu_self]; exact hR1 i hi) n 200 0 (T 47) N (by omega) (by omega) hbT (by omega) (fun _ => rfl)
    have e47 : va_up (va_up (bgM T) 52 R) 47 (T 47) = va_up (bgM T) 52 R := by
      have := vu_id (va_up (bgM T) 52 R) 47
      rw [vu_ne _ _ (by decide), bgM_47] at this
      exact this
    rw [nI_0, e47] at e40
    have hV := runD_V (fm := fun i => T 47 (12 + i)) (d := fun i => j / 8 ^ (n - 1 - i) % 8) (b := T 47) (w := j) hn (by omega) (fun i hi => rfl)
    generalize runD (fun i => T 47 (12 + i)) (fun i => j / 8 ^ (n - 1 - i) % 8) n 0 (T 47) = D at e40 hV
    have eW : f_M_layBack (va_up (va_up (bgM T) 52 R) 47 D.2) = some (va_up (va_up (bgM T) 52 R) 47 (lay92 (lay92 (T 47) (T 49)) D.2)) := by
      rw [m_layBack, vu_self, vu_ne _ _ (by decide), vu_ne _ _ (by decide), bgM_49, bx_uu]
    generalize hWd : va_up (va_up (bgM T) 52 R) 47 (lay92 (lay92 (T 47) (T 49)) D.2) = W at eW
    have hTW : Mr S W := by
      refine ⟨fun c c1 c2 c3 => ?_, fun i hi => ?_⟩
      · rw [← hWd, vu_ne _ _ c1, vu_ne _ _ c3, bgM_ne c2]
        exact hT.1 c c1 c2 c3
      · rw [← hWd, vu_self]
        simp only [lay92, hi, if_true]
        exact hT.2 i hi
    have e0 : ∀ i, i < 10 → va_up (va_up (bgM T) 52 R) 47 D.2 49 i = a i := by
      intro i hi
      rw [vu_ne _ _ (by decide), vu_ne _ _ (by decide), bgM_49]
      show (if i < 92 then T 47 i else T 49 i) = a i
      rw [if_pos (by omega)]
      exact hagT i hi
    have est : f_M_best_L60 (f + 1) (nI n) p2 (nI (8 ^ n)) y4 y5 y6 (nI j) T = (if D.1 = false then f_M_best_L60 f (nI n) p2 (nI (8 ^ n)) y4 y5 y6 (nI (j + 1)) W else (if y4 < 0 then f_M_best_L60 f (nI n) p2 (nI (8 ^ n)) (nI j) (D.2 0 - a 0) (D.2 8 - a 8) (nI (j + 1)) W else (if y5 < D.2 0 - a 0 then f_M_best_L60 f (nI n) p2 (nI (8 ^ n)) (nI j) (D.2 0 - a 0) (D.2 8 - a 8) (nI (j + 1)) W else (if D.2 0 - a 0 = y5 then (if y6 ≤ D.2 8 - a 8 then f_M_best_L60 f (nI n) p2 (nI (8 ^ n)) y4 y5 y6 (nI (j + 1)) W else f_M_best_L60 f (nI n) p2 (nI (8 ^ n)) (nI j) (D.2 0 - a 0) (D.2 8 - a 8) (nI (j + 1)) W) else f_M_best_L60 f (nI n) p2 (nI (8 ^ n)) y4 y5 y6 (nI (j + 1)) W)))) := by
      rw [f_M_best_L60, if_neg (nI_ge (by omega) (by omega)), m_bg, Option.bind_some]
      unfold f_M_doesRow
      rw [er, e40, Option.bind_some]
      dsimp only
      rw [eW, Option.bind_some, vu_self, e0 0 (by decide), e0 8 (by decide), nI_succ]
      simp only [bI_0]
    rw [est, kf_s]
    have hj8 : j < 8 ^ n := by omega
    rcases runV_ag hfT n _ _ j hagT with ⟨r1, r2⟩ | ⟨x, y, r1, r2, hxy⟩
    · rw [r1] at hV
      have hV' : D.1 = false := hV
      rw [if_pos hV', r2]
      exact ih f (j + 1) o y4 y5 y6 W (by omega) (by omega) hTW hO
    · rw [r1] at hV
      have hV' : D = (true, x) := hV
      have d0 : D.2 0 = y 0 := by rw [hV']; exact hxy 0 (by decide)
      have d8 : D.2 8 = y 8 := by rw [hV']; exact hxy 8 (by decide)
      rw [if_neg (show ¬ D.1 = false by rw [hV']; exact tnf), d0, d8, r2]
      show ∃ W', _ = ansM p2 (kf _ m (j + 1) (wgO o (y 0 - a 0) (y 8 - a 8) (0 * 8 ^ n + j))) W' ∧ Mr S W'
      rw [show 0 * 8 ^ n + j = j by omega]
      have hnew : Om n (some (y 0 - a 0, y 8 - a 8, j)) (nI j) (y 0 - a 0) (y 8 - a 8) := ⟨rfl, rfl, rfl, hj8⟩
      cases o with
      | none =>
        have h4 : y4 < 0 := hO
        rw [if_pos h4]
        exact ih f (j + 1) _ _ _ _ W (by omega) (by omega) hTW hnew
      | some z =>
        obtain ⟨g, d, w⟩ := z
        obtain ⟨rfl, rfl, rfl, hw⟩ := hO
        have hold : Om n (some (y5, y6, w)) (nI w) y5 y6 := ⟨rfl, rfl, rfl, hw⟩
        rw [if_neg (nI_pos (by omega))]
        unfold wgO
        dsimp only
        by_cases q1 : y5 < y 0 - a 0
        · rw [if_pos q1, if_pos q1]
          exact ih f (j + 1) _ _ _ _ W (by omega) (by omega) hTW hnew
        · rw [if_neg q1, if_neg q1]
          by_cases q2 : y 0 - a 0 = y5
          · rw [if_pos q2, if_pos q2]
            by_cases q3 : y6 ≤ y 8 - a 8
            · rw [if_pos q3, if_pos q3]
              exact ih f (j + 1) _ _ _ _ W (by omega) (by omega) hTW hold
            · rw [if_neg q3, if_neg q3]
              exact ih f (j + 1) _ _ _ _ W (by omega) (by omega) hTW hnew
          · rw [if_neg q2, if_neg q2]
            exact ih f (j + 1) _ _ _ _ W (by omega) (by omega) hTW hold
theorem p_best (hN : N < 1900000000) (p q : Int32) : Step2 N (f_S_best p q) (f_M_best p q) := by
  intro S h
  have hag := R_has h.1
  have hb := h.1.1.1
  unfold f_S_best f_M_best
  simp only [m_in, Option.bind_some, bI_0, s_f0, m_f0]
  by_cases h1 : p < 1
  · simp only [h1, if_true, inB_lo h1]
    exact ⟨_, _, _, rfl, rfl, (h.find 0).up28⟩
  by_cases h2 : 3 < p
  · simp only [h1, h2, if_true, if_false, inB_hi h2]
    exact ⟨_, _, _, rfl, rfl, (h.find 0).up28⟩
  have e3 : inB p 1 3 = true := inB_ok h1 (Int32.not_lt.mp h2)
  simp only [h1, h2, if_false, e3, if_neg tnf]
  by_cases h3 : q < 0
  · simp only [h3, if_true, inB_lo h3]
    exact ⟨_, _, _, rfl, rfl, (h.find 0).up28⟩
  by_cases h4 : q ≤ 2
  case neg =>
    simp only [h3, h4, if_false, inB_hi (Int32.not_le.mp h4), if_true]
    exact ⟨_, _, _, rfl, rfl, (h.find 0).up28⟩
  simp only [h3, h4, if_true, if_false, inB_ok h3 h4, if_neg tnf]
  obtain ⟨n, hn, rfl⟩ := nI_of2 (M := 3) (n := 3) (by decide) (x := p) (by rw [i_lt, i0]; rw [i_lt, i1] at h1; omega) (Int32.not_lt.mp h2)
  have hn1 : 1 ≤ n := by
    rw [i_lt, i1, nI_toInt (by omega)] at h1
    omega
  have hn' : n = 1 ∨ n = 2 ∨ n = 3 := by omega
  have e8 : (if nI n = 1 then (8 : Int32) else (if nI n = 2 then 64 else 512)) = nI (8 ^ n) := by
    rcases hn' with rfl | rfl | rfl <;> decide
  have hbeg : f_H_begin S = some (put (va_up S 27 (cp10 (S 4) (S 27))) 24 1 0) := by
    unfold f_H_begin
    rw [l_become, Option.bind_some]
  generalize hB : put (va_up S 27 (cp10 (S 4) (S 27))) 24 1 0 = B at hbeg
  have hBn : ∀ c, c ≠ 24 → c ≠ 27 → B c = S c := fun c c1 c2 => by rw [← hB, put_vu, vu_ne _ _ c1, vu_ne _ _ c2]
  have hB27 : ag (B 27) (S 4) := by
    rw [← hB, put_vu, vu_ne _ _ (by decide), vu_self]
    exact cp10_ag _ _
  have hB24 : Hs B none := by
    show B 24 1 = 0
    rw [← hB, put_vu, vu_self]
    rfl
  obtain ⟨T, t1, t2, t3⟩ := l_try0 (S := B) (nn := n) (p := 0) (a := S 4) (a0 := S 4) (N := N) hn1 hn (by omega) hb (by omega) hB27 hB27 hB24
  rw [show nI (dg 0) = (0 : Int32) from rfl] at t1
  rw [hBn 3 (by decide) (by decide), Nat.sub_zero, foV_blk] at t2
  have hTn : ∀ c, c ≠ 24 → (c ≤ 26 ∨ 33 < c) → T c = S c := fun c c1 c2 => (t3 c c1 (by omega)).trans (hBn c c1 (by omega))
  rw [hbeg, Option.bind_some, t1, Option.bind_some]
  have hcl : ∀ U : St, (∀ c, c ≠ 45 → U c = T c) → ∃ W, f_M_best_L60 600 (nI n) q (nI (8 ^ n)) (-1) 0 0 0 U = ansM q (kf (fun w o => stpO (S 4) (runV (S 3) n (S 4) w) (0 * 8 ^ n + w) o) (8 ^ n) 0 none) W ∧ Mr U W := by
    intro U hU
    have u47 : U 47 = S 47 := (hU 47 (by decide)).trans (hTn 47 (by decide) (by decide))
    have h5 : 8 ^ n ≤ 512 := by rcases hn' with rfl | rfl | rfl <;> decide
    have := m_best_loop (S := U) (p2 := q) (a := S 4) (fm := S 3) hn' (by rw [u47]; exact hag) (by rw [u47]; exact fm_ag h.1) hb hN (8 ^ n) 600 0 none (-1) 0 0 U (by omega) (by omega) ⟨fun _ _ _ _ => rfl, fun _ _ => rfl⟩ (show (-1 : Int32) < 0 by decide)
    rw [nI_0] at this
    exact this
  rw [e8]
  generalize kf (fun w o => stpO (S 4) (runV (S 3) n (S 4) w) (0 * 8 ^ n + w) o) (8 ^ n) 0 none = o at t2 hcl
  have hI : Inv N T := by
    refine h.sameR (fun c hc => hTn c ?_ ?_) (by rw [hTn 34 (by decide) (by decide)]) (by rw [hTn 46 (by decide) (by decide)]) (by rw [hTn 46 (by decide) (by decide)]) (fun i _ => by rw [hTn 47 (by decide) (by decide)])
    · have : (c < 9 ∨ (10 ≤ c ∧ c ≤ 14) ∨ 35 ≤ c) ∧ c ≠ 46 ∧ c ≠ 47 ∧ c ≠ 49 ∧ c ≠ 52 ∧ c ≠ 56 := hc
      omega
    · have : (c < 9 ∨ (10 ≤ c ∧ c ≤ 14) ∨ 35 ≤ c) ∧ c ≠ 46 ∧ c ≠ 47 ∧ c ≠ 49 ∧ c ≠ 52 ∧ c ≠ 56 := hc
      omega
  have hMr : ∀ {U W : St}, Inv N U → Mr U W → Inv N W := by
    intro U W hU hW
    refine hU.sameR (fun c hc => hW.1 c hc.2.2.1 hc.2.2.2.1 hc.2.2.2.2.1) (by rw [hW.1 34 (by decide) (by decide) (by decide)]) (by rw [hW.1 46 (by decide) (by decide) (by decide)]) (by rw [hW.1 46 (by decide) (by decide) (by decide)]) hW.2
  cases o with
  | none =>
    have t2' : T 24 1 = 0 := t2
    obtain ⟨W, w1, w2⟩ := hcl (fnS 3 T) (fun c hc => fnS_ne hc)
    rw [if_pos t2', s_f3]
    refine ⟨(-1000001) - 3, fnS 3 T, fnM 3 W, rfl, w1, ?_⟩
    have hf := hI.find 3
    have hq : Mr (fnM 3 (fnS 3 T)) (fnM 3 W) := by
      refine ⟨fun c c1 c2 c3 => ?_, fun i hi => ?_⟩
      · unfold fnM
        rw [w2.1 50 (by decide) (by decide) (by decide)]
        by_cases hc : c = 50
        · subst hc; rw [put_vu, put_vu, vu_self, vu_self, w2.1 50 (by decide) (by decide) (by decide)]
        · rw [put_vu, put_vu, vu_ne _ _ hc, vu_ne _ _ hc, w2.1 c c1 c2 c3]
      · unfold fnM
        rw [put_vu, put_vu, vu_ne _ _ (by decide), vu_ne _ _ (by decide), w2.2 i hi]
    exact (hMr hf hq).up28
  | some z =>
    obtain ⟨g, d, w⟩ := z
    obtain ⟨q1, q2, q3, q4⟩ := t2
    obtain ⟨W, w1, w2⟩ := hcl T (fun _ _ => rfl)
    refine ⟨(if q = 0 then g else (if q = 1 then d else nI (dg w))), T, W, ?_, w1, (hMr hI w2).up28⟩
    rw [if_neg (show ¬ T 24 1 = 0 by rw [q1]; decide), q2, q3, q4]
    by_cases c0 : q = 0
    · rw [if_pos c0, if_pos c0]
    · rw [if_neg c0, if_neg c0]
      by_cases c1 : q = 1
      · rw [if_pos c1, if_pos c1]
      · rw [if_neg c1, if_neg c1]
end METH18
