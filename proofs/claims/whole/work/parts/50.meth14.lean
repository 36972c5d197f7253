/-! ===== write, copy, load ===== -/
section METH14
variable {N : Int} {S : St}
theorem fitk (v : Int32) {s : Int32} {k : Nat} (hs : (s.toBitVec.smod 32).toNat = k) (hk : k = 24 ∨ k = 16) : ((v <<< s) >>> s).toInt = v.toInt.bmod (2 ^ (32 - k)) := by
  rw [pk_shr _ _ k hs, bv_int (v <<< s), pk_shl _ _ k hs, bv_int v, Int.shiftRight_eq_div_pow, Int.bmod_def]
  have h5 := bv_lt v
  generalize v.toBitVec.toNat = w at *
  rcases hk with rfl | rfl
  · have e : ((2 ^ (32 - 24) : Nat) : Int) = 256 := by decide
    have e2 : ((2 ^ 24 : Nat) : Int) = 16777216 := by decide
    rw [e, e2]
    split <;> split <;> split <;> omega
  · have e : ((2 ^ (32 - 16) : Nat) : Int) = 65536 := by decide
    rw [e]
    split <;> split <;> split <;> omega
theorem fit8 (v : Int32) : (v <<< ((32 - 8 : Int32) &&& 31)) >>> ((32 - 8 : Int32) &&& 31) = v.toInt8.toInt32 := by
  rw [i_eq, Int8.toInt_toInt32, Int32.toInt_toInt8]
  exact fitk v (k := 24) (by decide) (Or.inl rfl)
theorem fit16 (v : Int32) : (v <<< ((32 - 16 : Int32) &&& 31)) >>> ((32 - 16 : Int32) &&& 31) = v.toInt16.toInt32 := by
  rw [i_eq, Int16.toInt_toInt32, Int32.toInt_toInt16]
  exact fitk v (k := 16) (by decide) (Or.inr rfl)
theorem fit32 (v : Int32) : (v <<< ((32 - 32 : Int32) &&& 31)) >>> ((32 - 32 : Int32) &&& 31) = v := by
  have e : ((32 - 32 : Int32) &&& 31) = 0 := by decide
  rw [e]
  simp
def hasB (sz p q : Int32) : Bool := if p < 0 then false else (if q < 0 then false else (if sz - q < p then false else true))
theorem l_hasAll {c nm : Nat} (p q : Int32) : f_T_hasAll c nm p q S = some (hasB (S c 2) p q, S) := rfl
theorem has_n {sz p q : Int32} (hz : 0 ≤ sz.toInt ∧ sz.toInt ≤ 40) (h : hasB sz p q = true) : ∃ x n : Nat, p = nI x ∧ q = nI n ∧ ((x : Int) + n ≤ sz.toInt) ∧ x + n ≤ 40 := by
  unfold hasB at h
  by_cases h1 : p < 0
  · rw [if_pos h1] at h; cases h
  · rw [if_neg h1] at h
    by_cases h2 : q < 0
    · rw [if_pos h2] at h; cases h
    · rw [if_neg h2] at h
      by_cases h3 : sz - q < p
      · rw [if_pos h3] at h; cases h
      · obtain ⟨x, hx, rfl⟩ := nI_of h1
        obtain ⟨n, hn, rfl⟩ := nI_of h2
        have e : (sz - nI n).toInt = sz.toInt - n := by
          rw [i_sub (by rw [nI_toInt hn]; omega) (by rw [nI_toInt hn]; omega), nI_toInt hn]
        rw [i_lt, e, nI_toInt hx] at h3
        exact ⟨x, n, rfl, rfl, by omega, by omega⟩
theorem p_write (p q w : Int32) : Step2 N (f_S_write p q w) (f_M_write p q w) := by
  intro S h
  unfold f_S_write f_M_write
  simp only [l_isSheet, m_isSheet, m_in, Option.bind_some, bI_0, s_f0, m_f0, s_f5, m_f5, l_isMissing, l_hasAll]
  by_cases hy : shB p = false
  · simp only [hy, if_true]
    exact ⟨_, _, _, rfl, rfl, (h.find 0).up28⟩
  · have hy' : shB p = true := by simpa using hy
    obtain ⟨s, hs4, rfl⟩ := shB_t hy'
    obtain ⟨g1, g2, g3, g4, g5⟩ := h.2.2.2.2 s hs4
    simp only [hy', if_neg tnf, inb_n hs4 (show 4 < 1000000 by omega), nI_clamp (show s < 2 ^ 31 by omega), if_true]
    by_cases hz : S (37 + 2 * s) 1 = 0
    · simp only [hz, if_true, if_neg tnf]
      refine ⟨_, _, _, rfl, ?_, (h.find 5).up28⟩
      simp only [fnS_ne (show 53 ≠ 45 by decide), g1, hz, if_true]
    · simp only [hz, if_false, if_true]
      have hin : ∀ T : St, T 54 s = S (37 + 2 * s) 2 → inB q 0 (T 54 s - 1) = hasB (S (37 + 2 * s) 2) q 1 := by
        intro T hT
        rw [hT]
        unfold inB hasB
        rw [if_neg (show ¬ (1 : Int32) < 0 by decide)]
      by_cases hb : hasB (S (37 + 2 * s) 2) q 1 = false
      · simp only [hb, if_true]
        refine ⟨_, _, _, rfl, ?_, (h.find 0).up28⟩
        rw [if_neg (show ¬ fnS 0 S 53 s = 0 by rw [fnS_ne (by decide), g1]; exact hz), hin (fnS 0 S) (by rw [fnS_ne (by decide)]; exact g2), hb, if_pos rfl]
      · have hb' : hasB (S (37 + 2 * s) 2) q 1 = true := by simpa using hb
        obtain ⟨x, n1, rfl, en, hx1, hx2⟩ := has_n g4 hb'
        have hn1 : n1 = 1 := by
          have := congrArg Int32.toInt en
          rw [nI_toInt (by omega), i1] at this
          omega
        subst hn1
        have hfit : ∃ u, f_T_fitted (37 + 2 * s) (38 + 2 * s) w S = some (u, S) ∧ (w <<< ((32 - S (37 + 2 * s) 1) &&& 31)) >>> ((32 - S (37 + 2 * s) 1) &&& 31) = u := by
          unfold f_T_fitted
          rcases g3 with e | e | e | e
          · exact absurd e hz
          · rw [e, if_pos rfl]; exact ⟨_, rfl, fit8 w⟩
          · rw [e, if_neg (by decide), if_pos rfl]; exact ⟨_, rfl, fit16 w⟩
          · rw [e, if_neg (by decide), if_neg (by decide)]; exact ⟨_, rfl, fit32 w⟩
        obtain ⟨u, hu1, hu2⟩ := hfit
        obtain ⟨i1', i2'⟩ := ix40 hs4 (show x < 40 by omega)
        rw [if_neg hb, hu1, Option.bind_some]
        dsimp only
        rw [if_pos (inb_n (show x < 40 by omega) (by omega)), nI_clamp (show x < 2 ^ 31 by omega)]
        have r53 : put S (38 + 2 * s) x u 53 s = S (37 + 2 * s) 1 := by rw [put_vu, vu_ne _ _ (by omega)]; exact g1
        have r54 : put S (38 + 2 * s) x u 54 s = S (37 + 2 * s) 2 := by rw [put_vu, vu_ne _ _ (by omega)]; exact g2
        refine ⟨1, put S (38 + 2 * s) x u, put (put S (38 + 2 * s) x u) 55 (40 * s + x) u, rfl, ?_, ?_⟩
        · rw [if_neg (by rw [r53]; exact hz), hin _ r54, hb', if_neg tnf, if_pos i1', i2', r53, hu2]
        · have hr : ∀ c, c ≠ 38 + 2 * s → c ≠ 55 → put (put S (38 + 2 * s) x u) 55 (40 * s + x) u c = S c := by
            intro c a1 a2
            rw [put_vu, vu_ne _ _ a2, put_vu, vu_ne _ _ a1]
          refine (h.mvT (fun c a1 a2 a3 a4 a5 => hr c (by omega) a4) ?_).up28
          have e38 : put (put S (38 + 2 * s) x u) 55 (40 * s + x) u (38 + 2 * s) = upd (S (38 + 2 * s)) x u := by
            rw [put_vu, vu_ne _ _ (by omega), put_vu, vu_self]
          have e55 : put (put S (38 + 2 * s) x u) 55 (40 * s + x) u 55 = upd (S 55) (40 * s + x) u := by
            rw [put_vu, vu_self, put_vu, vu_ne _ _ (by omega)]
          intro t ht
          rw [hr 53 (by omega) (by omega), hr 54 (by omega) (by omega), hr (37 + 2 * t) (by omega) (by omega), e55]
          obtain ⟨f1, f2, f3, f4, f5⟩ := h.2.2.2.2 t ht
          refine ⟨f1, f2, f3, f4, fun i hi => ?_⟩
          by_cases hts : t = s
          · subst hts
            rw [e38, upd_app, upd_app]
            by_cases hix : i = x
            · rw [if_pos (by omega), if_pos hix]
            · rw [if_neg (by omega), if_neg hix]
              exact f5 i hi
          · rw [hr (38 + 2 * t) (by omega) (by omega), upd_app, if_neg (by omega)]
            exact f5 i hi
theorem m_cp2 {a x b y n : Nat} (hb : b < 4) (hy : y + n ≤ 40) : ∀ (m f j : Nat) (S : St), j + m = n → m + 2 ≤ f → f_M_copy_L152 f (nI a) (nI x) (nI b) (nI y) (nI n) (nI j) S = some (nI n, va_up S 55 (fun i => if 40 * b + y + j ≤ i ∧ i < 40 * b + y + n then S 56 (i - (40 * b + y)) else S 55 i)) := by
  intro m
  induction m with
  | zero =>
    intro f j S hj hn
    obtain ⟨f, rfl⟩ : ∃ n', f = n' + 1 := ⟨f - 1, by omega⟩
    have : j = n := by omega
    subst this
    rw [f_M_copy_L152, if_pos (nI_le (Nat.le_refl _) (by omega))]
    have e : (fun i => if 40 * b + y + j ≤ i ∧ i < 40 * b + y + j then S 56 (i - (40 * b + y)) else S 55 i) = S 55 := by
      funext i
      rw [if_neg (by omega)]
    rw [e, vu_id]
  | succ m ih =>
    intro f j S hj hn
    obtain ⟨f, rfl⟩ : ∃ n', f = n' + 1 := ⟨f - 1, by omega⟩
    have hix : (40 * nI b + nI y) + nI j = nI (40 * b + y + j) := by
      rw [show (40 : Int32) = nI 40 from rfl, pk_mul, nI_add, nI_add]
    rw [f_M_copy_L152, if_neg (nI_ge (by omega) (by omega)), if_pos (inb_n (show j < 40 by omega) (by omega)), hix, if_pos (inb_n (show 40 * b + y + j < 160 by omega) (by omega)), nI_clamp (show j < 2 ^ 31 by omega), nI_clamp (show 40 * b + y + j < 2 ^ 31 by omega), ← nI_succ]
    dsimp only
    rw [ih f (j + 1) _ (by omega) (by omega), put_vu, bx_uu, vu_self, vu_ne _ _ (by decide)]
    have e : (fun i => if 40 * b + y + (j + 1) ≤ i ∧ i < 40 * b + y + n then S 56 (i - (40 * b + y)) else upd (S 55) (40 * b + y + j) (S 56 j) i) = (fun i => if 40 * b + y + j ≤ i ∧ i < 40 * b + y + n then S 56 (i - (40 * b + y)) else S 55 i) := by
      funext i
      by_cases hij : i = 40 * b + y + j
      · subst hij
        rw [if_neg (by omega), if_pos (by omega), upd_app, if_pos rfl]
        congr 1
        omega
      · by_cases h2 : 40 * b + y + (j + 1) ≤ i ∧ i < 40 * b + y + n
        · rw [if_pos h2, if_pos (by omega)]
        · rw [if_neg h2, if_neg (by omega), upd_app, if_neg hij]
    rw [e]
theorem m_cp1 {a x b y n : Nat} (ha : a < 4) (hx : x + n ≤ 40) : ∀ (m f j : Nat) (S : St), j + m = n → m + 2 ≤ f → f_M_copy_L115 f (nI a) (nI x) (nI b) (nI y) (nI n) (nI j) S = f_M_copy_L152 200 (nI a) (nI x) (nI b) (nI y) (nI n) 0 (va_up S 56 (fun i => if j ≤ i ∧ i < n then S 55 (40 * a + x + i) else S 56 i)) := by
  intro m
  induction m with
  | zero =>
    intro f j S hj hn
    obtain ⟨f, rfl⟩ : ∃ n', f = n' + 1 := ⟨f - 1, by omega⟩
    have : j = n := by omega
    subst this
    rw [f_M_copy_L115, if_pos (nI_le (Nat.le_refl _) (by omega))]
    have e : (fun i => if j ≤ i ∧ i < j then S 55 (40 * a + x + i) else S 56 i) = S 56 := by
      funext i
      rw [if_neg (by omega)]
    rw [e, vu_id]
  | succ m ih =>
    intro f j S hj hn
    obtain ⟨f, rfl⟩ : ∃ n', f = n' + 1 := ⟨f - 1, by omega⟩
    have hix : (40 * nI a + nI x) + nI j = nI (40 * a + x + j) := by
      rw [show (40 : Int32) = nI 40 from rfl, pk_mul, nI_add, nI_add]
    rw [f_M_copy_L115, if_neg (nI_ge (by omega) (by omega)), hix, if_pos (inb_n (show 40 * a + x + j < 160 by omega) (by omega)), if_pos (inb_n (show j < 40 by omega) (by omega)), nI_clamp (show j < 2 ^ 31 by omega), nI_clamp (show 40 * a + x + j < 2 ^ 31 by omega), ← nI_succ]
    dsimp only
    rw [ih f (j + 1) _ (by omega) (by omega), put_vu, bx_uu, vu_self, vu_ne _ _ (by decide)]
    have e : (fun i => if j + 1 ≤ i ∧ i < n then S 55 (40 * a + x + i) else upd (S 56) j (S 55 (40 * a + x + j)) i) = (fun i => if j ≤ i ∧ i < n then S 55 (40 * a + x + i) else S 56 i) := by
      funext i
      by_cases hij : i = j
      · subst hij
        rw [if_neg (by omega), if_pos (by omega), upd_app, if_pos rfl]
      · by_cases h2 : j + 1 ≤ i ∧ i < n
        · rw [if_pos h2, if_pos (by omega)]
        · rw [if_neg h2, if_neg (by omega), upd_app, if_neg hij]
    rw [e]
end METH14
