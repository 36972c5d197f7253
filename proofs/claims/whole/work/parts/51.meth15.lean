/-! ===== copy, load ===== -/
section METH15
variable {N : Int} {S : St}
theorem cpok_n {x y n : Nat} (hx : x + n ≤ 40) (hy : y + n ≤ 40) : cpok (nI x) (nI y) (nI n) 40 40 = true := by
  unfold cpok
  rw [nI_clamp (show x < 2 ^ 31 by omega), nI_clamp (show y < 2 ^ 31 by omega), nI_clamp (show n < 2 ^ 31 by omega)]
  simp only [Bool.and_eq_true, decide_eq_true_eq]
  exact ⟨⟨⟨⟨nI_pos (by omega), nI_pos (by omega)⟩, nI_pos (by omega)⟩, hx⟩, hy⟩
theorem cp_cond {α : Type} {za zb p q w : Int32} (E F : α) : (if p < 0 then F else (if q < 0 then F else (if w < 0 then F else (if za - w < p then F else (if q ≤ zb - w then E else F))))) = (if hasB za p w = false then F else (if hasB zb q w = false then F else E)) := by
  have hl : (q ≤ zb - w) ↔ ¬ zb - w < q := Int32.not_lt.symm
  unfold hasB
  simp only [hl]
  by_cases h1 : p < 0
  · simp [h1]
  · by_cases h2 : q < 0
    · simp [h1, h2]
    · by_cases h3 : w < 0
      · simp [h1, h2, h3]
      · by_cases h4 : za - w < p
        · simp [h1, h2, h3, h4]
        · by_cases h5 : zb - w < q <;> simp [h1, h2, h3, h4, h5]
theorem p_copy (p q r w v : Int32) : Step2 N (f_S_copy p q r w v) (f_M_copy p q r w v) := by
  intro S h
  unfold f_S_copy f_M_copy
  simp only [l_isSheet, m_isSheet, Option.bind_some, bI_0, s_f0, m_f0, s_f5, m_f5, s_f2, m_f2, l_isMissing, l_hasAll]
  by_cases hy : shB p = false
  · simp only [hy, if_true]
    exact ⟨_, _, _, rfl, rfl, (h.find 0).up28⟩
  have hy' : shB p = true := by simpa using hy
  obtain ⟨s, hs4, rfl⟩ := shB_t hy'
  obtain ⟨g1, g2, g3, g4, g5⟩ := h.2.2.2.2 s hs4
  by_cases hyt : shB r = false
  · simp only [hy', hyt, if_true, if_neg tnf]
    exact ⟨_, _, _, rfl, rfl, (h.find 0).up28⟩
  have hyt' : shB r = true := by simpa using hyt
  obtain ⟨t, ht4, rfl⟩ := shB_t hyt'
  obtain ⟨k1, k2, k3, k4, k5⟩ := h.2.2.2.2 t ht4
  simp only [hy', hyt', if_neg tnf, inb_n hs4 (show 4 < 1000000 by omega), inb_n ht4 (show 4 < 1000000 by omega), nI_clamp (show s < 2 ^ 31 by omega), nI_clamp (show t < 2 ^ 31 by omega), if_true]
  by_cases hz : S (37 + 2 * s) 1 = 0
  · simp only [hz, if_true, if_neg tnf]
    refine ⟨_, _, _, rfl, ?_, (h.find 5).up28⟩
    simp only [fnS_ne (show 53 ≠ 45 by decide), g1, hz, if_true]
  by_cases hzt : S (37 + 2 * t) 1 = 0
  · simp only [hz, hzt, if_true, if_false, if_neg tnf]
    refine ⟨_, _, _, rfl, ?_, (h.find 5).up28⟩
    simp only [fnS_ne (show 53 ≠ 45 by decide), g1, k1, hz, hzt, if_true, if_false]
  simp only [hz, hzt, if_true, if_false]
  by_cases hk : S (37 + 2 * s) 1 = S (37 + 2 * t) 1
  case neg =>
    simp only [hk, if_false]
    refine ⟨_, _, _, rfl, ?_, (h.find 2).up28⟩
    simp only [fnS_ne (show 53 ≠ 45 by decide), g1, k1, hz, hzt, if_false, hk]
  rw [if_pos hk]
  have hmod : ∀ T : St, T 53 = S 53 → T 54 = S 54 → ∀ E F : Option (Int32 × St), (if T 53 s = 0 then some ((-1000001) - 5, fnM 5 T) else (if T 53 t = 0 then some ((-1000001) - 5, fnM 5 T) else (if T 53 s = T 53 t then (if q < 0 then F else (if w < 0 then F else (if v < 0 then F else (if T 54 s - v < q then F else (if w ≤ T 54 t - v then E else F))))) else some ((-1000001) - 2, fnM 2 T)))) = (if hasB (S (37 + 2 * s) 2) q v = false then F else (if hasB (S (37 + 2 * t) 2) w v = false then F else E)) := by
    intro T e53 e54 E F
    rw [e53, e54, g1, k1, g2, k2, if_neg hz, if_neg hzt, if_pos hk, cp_cond]
  have hfind : ∃ (r : Int32) (S1 S2 : St), some ((-1000001) - 0, fnS 0 S) = some (r, S1) ∧ some ((-1000001) - 0, fnM 0 S1) = some (r, S2) ∧ Inv (N + 28800) S2 := ⟨_, _, _, rfl, rfl, (h.find 0).up28⟩
  by_cases hb1 : hasB (S (37 + 2 * s) 2) q v = false
  · rw [if_pos hb1]
    obtain ⟨r, S1, S2, e1, e2, e3⟩ := hfind
    refine ⟨r, S1, S2, e1, ?_, e3⟩
    have eS : S1 = fnS 0 S := (Prod.mk.inj (Option.some.inj e1)).2.symm
    rw [hmod S1 (by rw [eS, fnS_ne (by decide)]) (by rw [eS, fnS_ne (by decide)]), if_pos hb1]
    exact e2
  rw [if_neg hb1]
  by_cases hb2 : hasB (S (37 + 2 * t) 2) w v = false
  · rw [if_pos hb2]
    obtain ⟨r, S1, S2, e1, e2, e3⟩ := hfind
    refine ⟨r, S1, S2, e1, ?_, e3⟩
    have eS : S1 = fnS 0 S := (Prod.mk.inj (Option.some.inj e1)).2.symm
    rw [hmod S1 (by rw [eS, fnS_ne (by decide)]) (by rw [eS, fnS_ne (by decide)]), if_neg hb1, if_pos hb2]
    exact e2
  rw [if_neg hb2]
  obtain ⟨x, n, rfl, rfl, -, hxn⟩ := has_n g4 (show hasB (S (37 + 2 * s) 2) q v = true by simpa using hb1)
  obtain ⟨y, n', rfl, en, -, hyn⟩ := has_n k4 (show hasB (S (37 + 2 * t) 2) w (nI n) = true by simpa using hb2)
  have enn : n' = n := by
    have := congrArg Int32.toInt en
    rw [nI_toInt (by omega), nI_toInt (by omega)] at this
    omega
  subst enn
  rw [if_pos (cpok_n hxn hyn)]
  have eC : cpy S (38 + 2 * s) (38 + 2 * t) (nI x) (nI y) (nI n') = va_up S (38 + 2 * t) (va_cpy (S (38 + 2 * s)) (S (38 + 2 * t)) x y n') := by
    unfold cpy
    rw [nI_clamp (show x < 2 ^ 31 by omega), nI_clamp (show y < 2 ^ 31 by omega), nI_clamp (show n' < 2 ^ 31 by omega)]
  rw [eC]
  generalize hT : va_up S (38 + 2 * t) (va_cpy (S (38 + 2 * s)) (S (38 + 2 * t)) x y n') = T
  have hTn : ∀ c, c ≠ 38 + 2 * t → T c = S c := fun c hc => by rw [← hT, vu_ne _ _ hc]
  have hTs : T (38 + 2 * t) = va_cpy (S (38 + 2 * s)) (S (38 + 2 * t)) x y n' := by rw [← hT, vu_self]
  have h1 := m_cp1 (a := s) (b := t) (y := y) hs4 hxn n' 200 0 T (by omega) (by omega)
  have h2 := m_cp2 (a := s) (x := x) ht4 hyn n' 200 0 (va_up T 56 (fun i => if 0 ≤ i ∧ i < n' then T 55 (40 * s + x + i) else T 56 i)) (by omega) (by omega)
  rw [nI_0] at h1 h2
  generalize hA : (fun i => if 0 ≤ i ∧ i < n' then T 55 (40 * s + x + i) else T 56 i) = A at h1 h2
  have hB : ∀ i, (fun i => if 40 * t + y + 0 ≤ i ∧ i < 40 * t + y + n' then (va_up T 56 A) 56 (i - (40 * t + y)) else (va_up T 56 A) 55 i) i = if 40 * t + y ≤ i ∧ i < 40 * t + y + n' then S 55 (40 * s + x + (i - (40 * t + y))) else S 55 i := by
    intro i
    dsimp only
    rw [vu_self, vu_ne _ _ (by decide), hTn 55 (by omega), Nat.add_zero, ← hA]
    by_cases hi : 40 * t + y ≤ i ∧ i < 40 * t + y + n'
    · rw [if_pos hi, if_pos hi]
      dsimp only
      rw [if_pos (by omega), hTn 55 (by omega)]
    · rw [if_neg hi, if_neg hi]
  generalize (fun i => if 40 * t + y + 0 ≤ i ∧ i < 40 * t + y + n' then (va_up T 56 A) 56 (i - (40 * t + y)) else (va_up T 56 A) 55 i) = B at h2 hB
  refine ⟨nI n', T, va_up (va_up T 56 A) 55 B, rfl, ?_, ?_⟩
  · rw [hmod T (hTn 53 (by omega)) (hTn 54 (by omega)), if_neg hb1, if_neg hb2]
    exact h1.trans h2
  · have hr : ∀ c, c ≠ 38 + 2 * t → c ≠ 55 → c ≠ 56 → va_up (va_up T 56 A) 55 B c = S c := by
      intro c a1 a2 a3
      rw [vu_ne _ _ a2, vu_ne _ _ a3, hTn c a1]
    refine (h.mvT (fun c a1 a2 a3 a4 a5 => hr c (by omega) a4 a5) ?_).up28
    have e38 : va_up (va_up T 56 A) 55 B (38 + 2 * t) = va_cpy (S (38 + 2 * s)) (S (38 + 2 * t)) x y n' := by
      rw [vu_ne _ _ (by omega), vu_ne _ _ (by omega), hTs]
    intro u hu
    rw [hr 53 (by omega) (by omega) (by omega), hr 54 (by omega) (by omega) (by omega), hr (37 + 2 * u) (by omega) (by omega) (by omega), vu_self]
    obtain ⟨f1, f2, f3, f4, f5⟩ := h.2.2.2.2 u hu
    refine ⟨f1, f2, f3, f4, fun i hi => ?_⟩
    rw [hB]
    by_cases hts : u = t
    · subst hts
      rw [e38]
      by_cases hix : y ≤ i ∧ i < y + n'
      · rw [if_pos (by omega), pk_cpy_in hix.1 hix.2, show 40 * s + x + (40 * u + i - (40 * u + y)) = 40 * s + (x + (i - y)) by omega, g5 _ (by omega)]
      · rw [if_neg (by omega), pk_cpy_out (by omega)]
        exact f5 i hi
    · rw [hr (38 + 2 * u) (by omega) (by omega) (by omega), if_neg (by omega)]
      exact f5 i hi
def ldV (num : Nat → Int32) (y : Nat) : Nat → Nat → (Nat → Int32) → Nat × (Nat → Int32)
  | 0, j, f => (j, f)
  | m + 1, j, f => if num j < 0 then (j, f) else (if 99 < num j then (j, f) else ldV num y m (j + 1) (upd f (y + j) (num j)))
theorem ldV_s {num : Nat → Int32} {y m j : Nat} {f : Nat → Int32} : ldV num y (m + 1) j f = if num j < 0 then (j, f) else (if 99 < num j then (j, f) else ldV num y m (j + 1) (upd f (y + j) (num j))) := by rw [ldV]
theorem s_ld_loop {s y R : Nat} {z : Int32} (hs4 : s < 4) (hR : y + R ≤ 40) : ∀ (m n j : Nat) (f : Nat → Int32), j + m = R → m + 2 ≤ n → f_S_load_L62 (nI s) n z (nI y) (nI R) (nI j) (va_up S 3 f) = some (nI (ldV (S (38 + 2 * s)) y m j f).1, va_up S 3 (ldV (S (38 + 2 * s)) y m j f).2) := by
  have cl : (nI s).toNatClampNeg = s := nI_clamp (by omega)
  intro m
  induction m with
  | zero =>
    intro n j f hj hn
    obtain ⟨n, rfl⟩ : ∃ n', n = n' + 1 := ⟨n - 1, by omega⟩
    have : j = R := by omega
    subst this
    rw [f_S_load_L62, if_pos (nI_le (Nat.le_refl _) (by omega))]
    rfl
  | succ m ih =>
    intro n j f hj hn
    obtain ⟨n, rfl⟩ : ∃ n', n = n' + 1 := ⟨n - 1, by omega⟩
    rw [f_S_load_L62, if_neg (nI_ge (by omega) (by omega)), if_pos (inb_n (show j < 40 by omega) (by omega)), cl, nI_clamp (show j < 2 ^ 31 by omega), vu_ne _ _ (by omega), ldV_s]
    by_cases h1 : S (38 + 2 * s) j < 0
    · rw [if_pos h1, if_pos h1]
    · rw [if_neg h1, if_neg h1]
      by_cases h2 : 99 < S (38 + 2 * s) j
      · rw [if_pos h2, if_pos h2]
      · rw [if_neg h2, if_neg h2, nI_add, if_pos (inb_n (show y + j < 40 by omega) (by omega)), nI_clamp (show y + j < 2 ^ 31 by omega), ← nI_succ]
        dsimp only
        rw [put_vu, vu_self, bx_uu]
        exact ih n (j + 1) _ (by omega) (by omega)
theorem m_ld_loop {s y R : Nat} {z sz : Int32} {num : Nat → Int32} (hs4 : s < 4) (hR : y + R ≤ 40) (hz : S 54 s = sz) (hz2 : 0 ≤ sz.toInt ∧ sz.toInt ≤ 40) (hR2 : (R : Int) ≤ sz.toInt) (hR3 : (R : Int) = sz.toInt ∨ y + R = 40) (hnum : ∀ i, i < 40 → S 55 (40 * s + i) = num i) : ∀ (m n j : Nat) (b f : Nat → Int32), j + m = R → m + 2 ≤ n → (∀ i, i < 40 → b (12 + i) = f i) → ∃ b2, f_M_load_L32 n (nI s) (nI y) z (nI j) (va_up S 47 b) = some (nI (ldV num y m j f).1, va_up S 47 b2) ∧ (∀ i, i < 40 → b2 (12 + i) = (ldV num y m j f).2 i) ∧ (∀ i, (i < 12 ∨ 52 ≤ i) → b2 i = b i) := by
  have cl : (nI s).toNatClampNeg = s := nI_clamp (by omega)
  intro m
  induction m with
  | zero =>
    intro n j b f hj hn hf
    obtain ⟨n, rfl⟩ : ∃ n', n = n' + 1 := ⟨n - 1, by omega⟩
    have : j = R := by omega
    subst this
    refine ⟨b, ?_, hf, fun _ _ => rfl⟩
    rw [f_M_load_L32, if_pos (inb_n hs4 (by omega)), cl, vu_ne _ _ (by decide), hz]
    by_cases hq : sz ≤ nI j
    · rw [if_pos hq]
      rfl
    · have hy40 : y + j = 40 := by
        rcases hR3 with e | e
        · exact absurd (by rw [i_le, nI_toInt (by omega)]; omega) hq
        · exact e
      rw [if_neg hq, nI_add, hy40, m_isYard, Option.bind_some]
      rfl
  | succ m ih =>
    intro n j b f hj hn hf
    obtain ⟨n, rfl⟩ : ∃ n', n = n' + 1 := ⟨n - 1, by omega⟩
    have hq : ¬ sz ≤ nI j := by rw [i_le, nI_toInt (by omega)]; omega
    have hyd : yardB (nI (y + j)) = true := by rw [yard_int, nI_toInt (by omega)]; omega
    obtain ⟨i1', i2'⟩ := ix40 hs4 (show j < 40 by omega)
    rw [f_M_load_L32, if_pos (inb_n hs4 (by omega)), cl, vu_ne _ _ (by decide), hz, if_neg hq, nI_add, m_isYard, Option.bind_some]
    dsimp only
    rw [hyd, bI_t, if_neg (show ¬ (1 : Int32) = 0 by decide), if_pos i1', i2', vu_ne _ _ (by decide), hnum j (by omega), m_in, Option.bind_some, ldV_s]
    simp only [bI_0]
    by_cases h1 : num j < 0
    · rw [inB_lo h1, if_pos rfl, if_pos h1]
      exact ⟨b, rfl, hf, fun _ _ => rfl⟩
    · rw [if_neg h1]
      by_cases h2 : 99 < num j
      · rw [inB_hi h2, if_pos rfl, if_pos h2]
        exact ⟨b, rfl, hf, fun _ _ => rfl⟩
      · have hix : (12 + nI y) + nI j = nI (12 + (y + j)) := by
          rw [show (12 : Int32) = nI 12 from rfl, nI_add, nI_add, Nat.add_assoc]
        rw [inB_ok h1 (Int32.not_lt.mp h2), if_neg tnf, if_neg h2, hix, if_pos (inb_n (show 12 + (y + j) < 92 by omega) (by omega)), nI_clamp (show 12 + (y + j) < 2 ^ 31 by omega), ← nI_succ]
        rw [put_vu, vu_self, bx_uu, vu_ne _ _ (show 55 ≠ 47 by decide), hnum j (show j < 40 by omega)]
        obtain ⟨b2, e1, e2, e3⟩ := ih n (j + 1) (upd b (12 + (y + j)) (num j)) (upd f (y + j) (num j)) (by omega) (by omega) (fun i hi => by
          rw [upd_app, upd_app]
          by_cases e : i = y + j
          · rw [if_pos (by omega), if_pos e]
          · rw [if_neg (by omega), if_neg e]
            exact hf i hi)
        exact ⟨b2, e1, e2, fun i hi => by rw [e3 i hi, upd_app, if_neg (by omega)]⟩
theorem p_load (p q : Int32) : Step2 N (f_S_load p q) (f_M_load p q) := by
  intro S h
  unfold f_S_load f_M_load f_M_lacks
  simp only [l_isSheet, m_isSheet, Option.bind_some, bI_0, s_f0, s_f5, l_isMissing, l_isYard]
  by_cases hy : shB p = false
  · simp only [hy, if_true, Option.bind_some, if_neg (show ¬ (0 : Int32) < 0 by decide), m_f0]
    exact ⟨_, _, _, rfl, rfl, (h.find 0).up28⟩
  have hy' : shB p = true := by simpa using hy
  obtain ⟨s, hs4, rfl⟩ := shB_t hy'
  obtain ⟨g1, g2, g3, g4, g5⟩ := h.2.2.2.2 s hs4
  simp only [hy', if_neg tnf, inb_n hs4 (show 4 < 1000000 by omega), nI_clamp (show s < 2 ^ 31 by omega), if_true]
  by_cases hz : S (37 + 2 * s) 1 = 0
  · simp only [hz, if_true, if_neg tnf]
    refine ⟨_, _, _, rfl, ?_, (h.find 5).up28⟩
    simp only [fnS_ne (show 53 ≠ 45 by decide), g1, hz, if_true, Option.bind_some, if_neg (show ¬ (5 : Int32) < 0 by decide), m_f5]
  have hmod : ∀ T : St, T 53 = S 53 → ∀ K : Int32 × St → Option (Int32 × St), ((some ((if T 53 s = 0 then (5 : Int32) else (-1)), T)).bind fun q1 => K q1) = K (-1, T) := by
    intro T e K
    rw [e, g1, if_neg hz, Option.bind_some]
  simp only [hz, if_false, if_true]
  by_cases hyd : yardB q = false
  · simp only [hyd, if_true]
    refine ⟨_, _, _, rfl, ?_, (h.find 0).up28⟩
    rw [if_neg (show ¬ fnS 0 S 53 s = 0 by rw [fnS_ne (by decide), g1]; exact hz), Option.bind_some]
    dsimp only
    rw [if_pos (show (-1 : Int32) < 0 by decide), m_isYard, Option.bind_some, hyd, if_pos rfl, m_f0]
    rfl
  have hyd' : yardB q = true := by simpa using hyd
  obtain ⟨y, hy40, rfl⟩ := yard_n hyd'
  obtain ⟨Z, hZ, eZ⟩ := nI_of (x := S (37 + 2 * s) 2) (by rw [i_lt, i0]; omega)
  have hZ2 : Z ≤ 40 := by rw [eZ, nI_toInt hZ] at g4; omega
  have eR : (if (40 : Int32) - nI y < S (37 + 2 * s) 2 then (40 : Int32) - nI y else S (37 + 2 * s) 2) = nI (min Z (40 - y)) := by
    rw [eZ, show (40 : Int32) = nI 40 from rfl, pk_sub (by omega)]
    by_cases hc : 40 - y < Z
    · rw [if_pos (nI_lt hc (by omega)), Nat.min_eq_right (by omega)]
    · rw [if_neg (nI_nlt (by omega) (by omega)), Nat.min_eq_left (by omega)]
  rw [if_neg hyd, eR]
  generalize hR : min Z (40 - y) = R
  have hR1 : y + R ≤ 40 := by omega
  have hR2 : (R : Int) ≤ (S (37 + 2 * s) 2).toInt := by rw [eZ, nI_toInt hZ]; omega
  have hR3 : (R : Int) = (S (37 + 2 * s) 2).toInt ∨ y + R = 40 := by rw [eZ, nI_toInt hZ]; omega
  have hs := s_ld_loop (S := S) (z := nI s) hs4 hR1 R 200 0 (S 3) (by omega) (by omega)
  rw [nI_0, vu_id] at hs
  generalize hV : ldV (S (38 + 2 * s)) y R 0 (S 3) = V at hs
  have hTn : ∀ c, c ≠ 3 → va_up S 3 V.2 c = S c := fun c hc => vu_ne _ _ hc
  obtain ⟨b2, hm, e2, e3⟩ := m_ld_loop (S := va_up S 3 V.2) (z := -1) (num := S (38 + 2 * s)) hs4 hR1 (by rw [hTn 54 (by decide)]; exact g2) g4 hR2 hR3 (fun i hi => by rw [hTn 55 (by decide)]; exact g5 i hi) R 200 0 (S 47) (S 3) (by omega) (by omega) (fun i hi => R_f h.1 hi)
  have em2 : va_up (va_up S 3 V.2) 47 (S 47) = va_up S 3 V.2 := by
    have := vu_id (va_up S 3 V.2) 47
    rw [hTn 47 (by decide)] at this
    exact this
  rw [nI_0, em2, hV] at hm
  rw [hV] at e2
  refine ⟨nI V.1, va_up S 3 V.2, va_up (va_up S 3 V.2) 47 b2, hs, ?_, ?_⟩
  · rw [if_neg (show ¬ va_up S 3 V.2 53 s = 0 by rw [hTn 53 (by decide), g1]; exact hz), Option.bind_some]
    dsimp only
    rw [if_pos (show (-1 : Int32) < 0 by decide), m_isYard, Option.bind_some, hyd', if_neg tnf]
    exact hm
  · have hr : ∀ c, c ≠ 3 → c ≠ 47 → va_up (va_up S 3 V.2) 47 b2 c = S c := by
      intro c q2 q3
      rw [vu_ne _ _ q3, vu_ne _ _ q2]
    refine h.mvS (by omega) (fun c hc q1 q3 q4 q5 q6 q7 => hr c q3 hc.2.2.1) (by rw [hr 34 (by decide) (by decide)]) (by rw [hr 46 (by decide) (by decide)]) (by rw [hr 46 (by decide) (by decide)]) ⟨h.1.1.le (by omega), ?_⟩
    show ∀ i, i < 92 → b2 i = pkF (S 1 6) (S 1 5) (S 4) V.2 (S 5) (S 6) (S 7) i
    exact pk_mk (fun i hi => (e3 i (by omega)).trans (R_has h.1 i hi)) ((e3 10 (by omega)).trans (R_z h.1)) ((e3 11 (by omega)).trans (R_n h.1)) e2 (fun i hi => (e3 _ (by omega)).trans (R_sl h.1 hi)) (fun i hi => (e3 _ (by omega)).trans (R_sp h.1 hi)) (fun i hi => (e3 _ (by omega)).trans (R_pl h.1 hi))
end METH15
