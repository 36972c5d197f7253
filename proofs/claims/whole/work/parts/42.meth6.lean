/-! ===== winds, odds, air, sacks ===== -/
section METH6
variable {N : Int} {S : St}
theorem vu_comm {α : Type} {S : Nat → α} {h k : Nat} {a b : α} (hk : h ≠ k) : va_up (va_up S h a) k b = va_up (va_up S k b) h a := by
  funext c
  by_cases h1 : c = h
  · subst h1; rw [vu_ne _ _ hk, vu_self, vu_self]
  · by_cases h2 : c = k
    · subst h2; rw [vu_self, vu_ne _ _ h1, vu_self]
    · rw [vu_ne _ _ h2, vu_ne _ _ h1, vu_ne _ _ h1, vu_ne _ _ h2]
def nz (z : Int32) : Int32 := z * 1103515245 + 12345
def dr (z : Int32) : Int32 := (z.toUInt32 >>> (Int32.toUInt32 8 &&& Int32.toUInt32 31)).toInt32
theorem dr_n (z : Int32) : ∃ j : Nat, j < 16777216 ∧ dr z = nI j := by
  have e8 : (Int32.toUInt32 8 &&& Int32.toUInt32 31) = 8 := by decide
  have hn : (z.toUInt32 >>> 8).toNat < 16777216 := by
    rw [UInt32.toNat_shiftRight]
    have : z.toUInt32.toNat < 4294967296 := z.toUInt32.toNat_lt
    show z.toUInt32.toNat >>> 8 < _
    rw [Nat.shiftRight_eq_div_pow]
    omega
  have hi : (dr z).toInt = ((z.toUInt32 >>> 8).toNat : Int) := by
    unfold dr
    rw [e8]
    show (z.toUInt32 >>> 8).toBitVec.toInt = _
    rw [BitVec.toInt_eq_toNat_of_lt]
    · rfl
    · show 2 * (z.toUInt32 >>> 8).toNat < 2 ^ 32
      omega
  obtain ⟨j, hj, e⟩ := nI_of (x := dr z) (by rw [i_lt, i0, hi]; omega)
  refine ⟨j, ?_, e⟩
  rw [e, nI_toInt hj] at hi
  omega
theorem rm_n {x : Int32} {d : Nat} (hd : 0 < d) (hd2 : d < 1000) (hx : ∃ j : Nat, j < 16777216 ∧ x = nI j) : ∃ j : Nat, j < d ∧ x - x / nI d * nI d = nI j := by
  obtain ⟨j, hj, rfl⟩ := hx
  exact ⟨j % d, Nat.mod_lt _ hd, pk_rem (d := d) (by omega) (by omega) (by omega)⟩
def zS (S : St) (z : Int32) : St := va_up S 1 (upd (S 1) 6 z)
def zfS (S : St) (z : Int32) (f : Nat → Int32) : St := va_up (zS S z) 3 f
theorem zfS_draw {z : Int32} {f : Nat → Int32} : f_C_draw (zfS S z f) = some (dr (nz z), zfS S (nz z) f) := by
  have e : put (zfS S z f) 1 6 (nz z) = zfS S (nz z) f := by
    unfold zfS zS
    rw [put_vu, vu_ne _ _ (by decide), vu_self, upd_upd, vu_comm (by decide), bx_uu]
  have e2 : zfS S z f 1 6 = z := rfl
  have e3 : zfS S (nz z) f 1 6 = nz z := rfl
  unfold f_C_draw
  rw [e2]
  show some (dr ((put (zfS S z f) 1 6 (nz z)) 1 6), put (zfS S z f) 1 6 (nz z)) = _
  rw [e, e3]
theorem m_drawT {b : Nat → Int32} : f_M_draw (va_up S 47 b) = some (dr (nz (b 10)), va_up S 47 (upd b 10 (nz (b 10)))) := by
  unfold f_M_draw
  simp only [put_vu, vu_self, bx_uu]
  rfl
def windV : Nat → Int32 → (Nat → Int32) → Int32 × (Nat → Int32)
  | 0, z, f => (z, f)
  | m + 1, z, f => windV m (nz (nz z)) (upd f (dr (nz z) - dr (nz z) / 40 * 40).toNatClampNeg (dr (nz (nz z)) - dr (nz (nz z)) / 100 * 100))
theorem windV_0 {z : Int32} {f : Nat → Int32} : windV 0 z f = (z, f) := rfl
theorem windV_s {m : Nat} {z : Int32} {f : Nat → Int32} : windV (m + 1) z f = windV m (nz (nz z)) (upd f (dr (nz z) - dr (nz z) / 40 * 40).toNatClampNeg (dr (nz (nz z)) - dr (nz (nz z)) / 100 * 100)) := by rw [windV]
theorem s_wind_loop (mm : Nat) (hm : mm ≤ 60) : ∀ (m n j : Nat) (z : Int32) (f : Nat → Int32), j + m = mm → m + 2 ≤ n → f_S_wind_L19 n (nI mm) (nI j) (zfS S z f) = some (sumF (windV m z f).2 40 0 0, zfS S (windV m z f).1 (windV m z f).2) := by
  intro m
  induction m with
  | zero =>
    intro n j z f hj hn
    obtain ⟨n, rfl⟩ : ∃ n', n = n' + 1 := ⟨n - 1, by omega⟩
    have : j = mm := by omega
    subst this
    unfold f_S_wind_L19
    have e3 : zfS S z f 3 = f := vu_self _ _ _
    rw [if_pos (nI_le (Nat.le_refl _) (by omega)), s_firm, e3, Option.bind_some, windV_0]
  | succ m ih =>
    intro n j z f hj hn
    obtain ⟨n, rfl⟩ : ∃ n', n = n' + 1 := ⟨n - 1, by omega⟩
    unfold f_S_wind_L19
    obtain ⟨q, hq, eq⟩ := rm_n (d := 40) (by omega) (by omega) (dr_n (nz z))
    rw [show nI 40 = (40 : Int32) from rfl] at eq
    have hy : yardB (nI q) = true := by rw [yard_int, nI_toInt (by omega)]; omega
    have ep : ∀ x, put (zfS S (nz (nz z)) f) 3 (nI q).toNatClampNeg x = zfS S (nz (nz z)) (upd f (nI q).toNatClampNeg x) := by
      intro x
      unfold zfS
      rw [put_vu, vu_self, bx_uu]
    rw [if_neg (nI_ge (by omega) (by omega)), zfS_draw, Option.bind_some]
    dsimp only
    rw [zfS_draw, Option.bind_some]
    dsimp only
    rw [windV_s, eq, l_isYard, Option.bind_some]
    dsimp only
    rw [hy, if_neg (by decide), if_pos (inb_n hq (by omega)), ep, ← nI_succ, ih n (j + 1) _ _ (by omega) (by omega)]
theorem m_wind_loop (mm : Nat) (hm : mm ≤ 60) : ∀ (m n j : Nat) (b f : Nat → Int32), j + m = mm → m + 2 ≤ n → (∀ i, i < 40 → b (12 + i) = f i) → ∃ b2, f_M_wind_L18 n (nI mm) (nI j) (va_up S 47 b) = some (sumF (windV m (b 10) f).2 40 0 0, va_up S 47 b2) ∧ b2 10 = (windV m (b 10) f).1 ∧ (∀ i, i < 40 → b2 (12 + i) = (windV m (b 10) f).2 i) ∧ (∀ i, (i < 10 ∨ i = 11 ∨ 52 ≤ i) → b2 i = b i) := by
  intro m
  induction m with
  | zero =>
    intro n j b f hj hn hf
    obtain ⟨n, rfl⟩ : ∃ n', n = n' + 1 := ⟨n - 1, by omega⟩
    have : j = mm := by omega
    subst this
    refine ⟨b, ?_, rfl, hf, fun _ _ => rfl⟩
    unfold f_M_wind_L18
    rw [if_pos (nI_le (Nat.le_refl _) (by omega)), m_firm (g := f) (fun i hi => by rw [vu_self]; exact hf i hi), Option.bind_some, windV_0]
  | succ m ih =>
    intro n j b f hj hn hf
    obtain ⟨n, rfl⟩ : ∃ n', n = n' + 1 := ⟨n - 1, by omega⟩
    obtain ⟨q, hq, eq⟩ := rm_n (d := 40) (by omega) (by omega) (dr_n (nz (b 10)))
    rw [show nI 40 = (40 : Int32) from rfl] at eq
    have hx := ixA (k := 12) (n := 92) (j := q) (by omega) (by omega) (by omega) (by omega)
    rw [show nI 12 = (12 : Int32) from rfl] at hx
    have h10 : upd b 10 (nz (b 10)) 10 = nz (b 10) := rfl
    obtain ⟨b2, e, e1, e2, e3⟩ := ih n (j + 1) (upd (upd b 10 (nz (nz (b 10)))) (12 + q) (dr (nz (nz (b 10))) - dr (nz (nz (b 10))) / 100 * 100)) (upd f q (dr (nz (nz (b 10))) - dr (nz (nz (b 10))) / 100 * 100)) (by omega) (by omega) (fun i hi => by
      simp only [upd_app]
      by_cases hiq : i = q
      · rw [if_pos (by omega), if_pos hiq]
      · rw [if_neg (by omega), if_neg hiq, if_neg (by omega)]
        exact hf i hi)
    have hz : upd (upd b 10 (nz (nz (b 10)))) (12 + q) (dr (nz (nz (b 10))) - dr (nz (nz (b 10))) / 100 * 100) 10 = nz (nz (b 10)) := by
      rw [upd_app, if_neg (by omega), upd_app, if_pos rfl]
    rw [hz] at e e1 e2
    refine ⟨b2, ?_, ?_, ?_, ?_⟩
    · unfold f_M_wind_L18
      rw [if_neg (nI_ge (by omega) (by omega)), m_drawT]
      rw [Option.bind_some]
      dsimp only
      rw [m_drawT, h10, upd_upd, Option.bind_some]
      dsimp only
      rw [windV_s, eq, if_pos hx.1, hx.2, put_vu, vu_self, bx_uu, nI_clamp (show q < 2 ^ 31 by omega), ← nI_succ, e]
    · rw [windV_s, eq, nI_clamp (show q < 2 ^ 31 by omega)]
      exact e1
    · rw [windV_s, eq, nI_clamp (show q < 2 ^ 31 by omega)]
      exact e2
    · intro i hi
      rw [e3 i hi, upd_app, if_neg (by omega), upd_app, if_neg (by omega)]
theorem p_wind (p : Int32) : Step2 N (f_S_wind p) (f_M_wind p) := by
  intro S h
  unfold f_S_wind f_M_wind
  simp only [m_in, Option.bind_some, bI_0, s_f0, m_f0]
  by_cases h1 : p < 1
  · simp only [h1, if_true, inB_lo h1]
    exact ⟨_, _, _, rfl, rfl, (h.find 0).up28⟩
  · by_cases h2 : p ≤ 60
    · simp only [h1, h2, if_true, if_false, inB_ok h1 h2, if_neg tnf]
      obtain ⟨j, hj, rfl⟩ := nI_of2 (M := 60) (n := 60) (by decide) (x := p) (by rw [i_lt, i0]; rw [i_lt, i1] at h1; omega) h2
      have hs := s_wind_loop (S := S) j hj j 200 0 (S 1 6) (S 3) (by omega) (by omega)
      rw [nI_0] at hs
      have e0 : zfS S (S 1 6) (S 3) = S := by
        unfold zfS zS
        rw [upd_same, vu_id, vu_id]
      rw [e0] at hs
      obtain ⟨b2, em, e1, e2, e3⟩ := m_wind_loop (S := zfS S (windV j (S 1 6) (S 3)).1 (windV j (S 1 6) (S 3)).2) j hj j 200 0 (S 47) (S 3) (by omega) (by omega) (fun i hi => R_f h.1 hi)
      rw [R_z h.1] at em e1 e2
      rw [nI_0] at em
      have e47 : zfS S (windV j (S 1 6) (S 3)).1 (windV j (S 1 6) (S 3)).2 47 = S 47 := by
        unfold zfS zS
        rw [vu_ne _ _ (by decide), vu_ne _ _ (by decide)]
      have em2 : va_up (zfS S (windV j (S 1 6) (S 3)).1 (windV j (S 1 6) (S 3)).2) 47 (S 47) = zfS S (windV j (S 1 6) (S 3)).1 (windV j (S 1 6) (S 3)).2 := by
        rw [← e47]; exact vu_id _ _
      rw [em2] at em
      refine ⟨_, _, _, hs, em, ?_⟩
      have hr : ∀ c, c ≠ 1 → c ≠ 3 → c ≠ 47 → va_up (zfS S (windV j (S 1 6) (S 3)).1 (windV j (S 1 6) (S 3)).2) 47 b2 c = S c := by
        intro c q1 q2 q3
        unfold zfS zS
        rw [vu_ne _ _ q3, vu_ne _ _ q2, vu_ne _ _ q1]
      refine h.mvS (by omega) (fun c hc q1 q3 q4 q5 q6 q7 => hr c q1 q3 (by have : c ≠ 46 ∧ c ≠ 47 ∧ c ≠ 49 ∧ c ≠ 52 ∧ c ≠ 56 := hc.2; omega)) (by rw [hr 34 (by decide) (by decide) (by decide)]) (by rw [hr 46 (by decide) (by decide) (by decide)]) (by rw [hr 46 (by decide) (by decide) (by decide)]) ⟨h.1.1.le (by omega), ?_⟩
      show ∀ i, i < 92 → b2 i = pkF (windV j (S 1 6) (S 3)).1 (S 1 5) (S 4) (windV j (S 1 6) (S 3)).2 (S 5) (S 6) (S 7) i
      exact pk_mk (fun i hi => (e3 i (by omega)).trans (R_has h.1 i hi)) e1 ((e3 11 (by omega)).trans (R_n h.1)) e2 (fun i hi => (e3 _ (by omega)).trans (R_sl h.1 hi)) (fun i hi => (e3 _ (by omega)).trans (R_sp h.1 hi)) (fun i hi => (e3 _ (by omega)).trans (R_pl h.1 hi))
    · simp only [h1, h2, if_false, inB_hi (Int32.not_le.mp h2), if_true]
      exact ⟨_, _, _, rfl, rfl, (h.find 0).up28⟩
def oddV (a : Nat → Int32) : Nat → Int32 → Int32 → Int32 × Int32
  | 0, z, x => (x, z)
  | m + 1, z, x => oddV a m (nz z) (if gripF a (dr (nz z) - dr (nz z) / 100 * 100) (a 3) < weightF a then x else x + 1)
theorem zS_draw {z : Int32} : f_C_draw (zS S z) = some (dr (nz z), zS S (nz z)) := by
  have e : put (zS S z) 1 6 (nz z) = zS S (nz z) := by
    unfold zS
    rw [put_vu, vu_self, upd_upd, bx_uu]
  have e2 : zS S z 1 6 = z := rfl
  have e3 : zS S (nz z) 1 6 = nz z := rfl
  unfold f_C_draw
  rw [e2]
  show some (dr ((put (zS S z) 1 6 (nz z)) 1 6), put (zS S z) 1 6 (nz z)) = _
  rw [e, e3]
theorem s_odds_loop (mm : Nat) (hm : mm ≤ 60) : ∀ (m n j : Nat) (z x : Int32), j + m = mm → m + 2 ≤ n → f_S_odds_L37 n (nI mm) x (nI j) (zS S z) = some ((oddV (S 4) m z x).1, zS S (oddV (S 4) m z x).2) := by
  intro m
  induction m with
  | zero =>
    intro n j z x hj hn
    obtain ⟨n, rfl⟩ : ∃ n', n = n' + 1 := ⟨n - 1, by omega⟩
    have : j = mm := by omega
    subst this
    unfold f_S_odds_L37
    rw [if_pos (nI_le (Nat.le_refl _) (by omega))]
    rfl
  | succ m ih =>
    intro n j z x hj hn
    obtain ⟨n, rfl⟩ : ∃ n', n = n' + 1 := ⟨n - 1, by omega⟩
    unfold f_S_odds_L37
    have e4 : zS S (nz z) 4 = S 4 := by unfold zS; rw [vu_ne _ _ (by decide)]
    rw [if_neg (nI_ge (by omega) (by omega)), zS_draw]
    simp only [Option.bind_some, l_gripOf, l_weight, e4, oddV]
    rw [← nI_succ]
    by_cases hq : gripF (S 4) (dr (nz z) - dr (nz z) / 100 * 100) (S 4 3) < weightF (S 4)
    · rw [if_pos hq, if_pos hq, ih n (j + 1) _ _ (by omega) (by omega)]
    · rw [if_neg hq, if_neg hq, ih n (j + 1) _ _ (by omega) (by omega)]
theorem grip_10 (a : Nat → Int32) (x f r : Int32) : gripF (upd a 10 x) f r = gripF a f r := rfl
theorem weight_10 (a : Nat → Int32) (x : Int32) : weightF (upd a 10 x) = weightF a := rfl
theorem m_odds_loop {a : Nat → Int32} (mm : Nat) (hm : mm ≤ 60) (hag : ag (S 47) a) : ∀ (m n j : Nat) (z x : Int32), j + m = mm → m + 2 ≤ n → f_M_odds_L33 n (nI mm) x (nI j) (va_up S 47 (upd (S 47) 10 z)) = some ((oddV a m z x).1, va_up S 47 (upd (S 47) 10 (oddV a m z x).2)) := by
  intro m
  induction m with
  | zero =>
    intro n j z x hj hn
    obtain ⟨n, rfl⟩ : ∃ n', n = n' + 1 := ⟨n - 1, by omega⟩
    have : j = mm := by omega
    subst this
    unfold f_M_odds_L33
    rw [if_pos (nI_le (Nat.le_refl _) (by omega))]
    rfl
  | succ m ih =>
    intro n j z x hj hn
    obtain ⟨n, rfl⟩ : ∃ n', n = n' + 1 := ⟨n - 1, by omega⟩
    unfold f_M_odds_L33
    have h10 : upd (S 47) 10 z 10 = z := rfl
    have h3 : upd (S 47) 10 (nz z) 3 = S 47 3 := rfl
    rw [if_neg (nI_ge (by omega) (by omega)), m_drawT]
    simp only [Option.bind_some, m_gripOf, m_weight, vu_self, h10, upd_upd, grip_10, weight_10, h3, oddV, grip_ag hag, weight_ag hag, hag 3 (by decide)]
    rw [← nI_succ, ih n (j + 1) _ _ (by omega) (by omega)]
    by_cases hq : gripF a (dr (nz z) - dr (nz z) / 100 * 100) (a 3) < weightF a
    · rw [if_pos hq, if_pos hq, Int32.add_zero]
    · rw [if_neg hq, if_neg hq]
theorem p_odds (p : Int32) : Step2 N (f_S_odds p) (f_M_odds p) := by
  intro S h
  unfold f_S_odds f_M_odds
  simp only [m_in, Option.bind_some, bI_0, s_f0, m_f0, s_f4, m_f4, l_isOut, m_isOut]
  by_cases h1 : p < 1
  · simp only [h1, if_true, inB_lo h1]
    exact ⟨_, _, _, rfl, rfl, (h.find 0).up28⟩
  · by_cases h2 : p ≤ 20
    · simp only [h1, h2, if_true, if_false, inB_ok h1 h2, if_neg tnf]
      by_cases ho : outB (S 4) = false
      · simp only [ho, if_true]
        obtain ⟨j, hj, rfl⟩ := nI_of2 (M := 20) (n := 20) (by decide) (x := p) (by rw [i_lt, i0]; rw [i_lt, i1] at h1; omega) h2
        have hs := s_odds_loop (S := S) j (by omega) j 200 0 (S 1 6) 0 (by omega) (by omega)
        rw [nI_0] at hs
        have e0 : zS S (S 1 6) = S := by
          unfold zS
          rw [upd_same, vu_id]
        rw [e0] at hs
        have e47 : zS S (oddV (S 4) j (S 1 6) 0).2 47 = S 47 := by
          unfold zS
          rw [vu_ne _ _ (by decide)]
        have hm := m_odds_loop (S := zS S (oddV (S 4) j (S 1 6) 0).2) (a := S 4) j (by omega) (by rw [e47]; exact R_has h.1) j 200 0 (S 1 6) 0 (by omega) (by omega)
        rw [nI_0, e47, ← R_z h.1, upd_same, R_z h.1] at hm
        have em2 : va_up (zS S (oddV (S 4) j (S 1 6) 0).2) 47 (S 47) = zS S (oddV (S 4) j (S 1 6) 0).2 := by
          rw [← e47]; exact vu_id _ _
        rw [em2] at hm
        refine ⟨_, _, _, hs, ?_, (h.setZ (x := (oddV (S 4) j (S 1 6) 0).2)).up28⟩
        have ho2 : outB (zS S (oddV (S 4) j (S 1 6) 0).2 47) = false := by rw [e47, out_ag (R_has h.1)]; exact ho
        rw [if_pos ho2]
        exact hm
      · have ho' : outB (S 4) = true := by simpa using ho
        simp only [ho', if_neg tnf]
        refine ⟨_, _, _, rfl, ?_, (h.find 4).up28⟩
        have ho2 : outB (fnS 4 S 47) = true := by rw [fnS_ne (by decide), out_ag (R_has h.1)]; exact ho'
        rw [if_neg (by rw [ho2]; decide)]
    · simp only [h1, h2, if_false, inB_hi (Int32.not_le.mp h2), if_true]
      exact ⟨_, _, _, rfl, rfl, (h.find 0).up28⟩
def airV (a : Nat → Int32) (f : Int32) : Nat → Nat → Option Int32
  | 0, _ => none
  | m + 1, j => if gripF a f (nI j) < weightF a then airV a f m (j + 1) else some (nI j)
def orS (o : Option Int32) (S : St) : Option (Int32 × St) := match o with | some r => some (r, S) | none => some ((-1000001) - 3, fnS 3 S)
def orM (o : Option Int32) (S : St) : Option (Int32 × St) := match o with | some r => some (r, S) | none => some ((-1000001) - 3, fnM 3 S)
theorem or_step (h : Inv N S) (o : Option Int32) {fM : St → Option (Int32 × St)} (hM : ∀ T, (∀ c, c ≠ 45 → T c = S c) → fM T = orM o T) : ∃ r S1 S2, orS o S = some (r, S1) ∧ fM S1 = some (r, S2) ∧ Inv (N + 28800) S2 := by
  cases o with
  | some r => exact ⟨r, S, S, rfl, hM S (fun _ _ => rfl), h.up28⟩
  | none => exact ⟨_, _, _, rfl, hM _ (fun c hc => fnS_ne hc), (h.find 3).up28⟩
theorem s_air_loop {y : Nat} (hy : y < 40) : ∀ (m n j : Nat), j + m = 10 → m + 2 ≤ n → f_S_airFor_L15 n (nI y) (nI j) S = orS (airV (S 4) (S 3 y) m j) S := by
  intro m
  induction m with
  | zero =>
    intro n j hj hn
    obtain ⟨n, rfl⟩ : ∃ n', n = n' + 1 := ⟨n - 1, by omega⟩
    have : j = 10 := by omega
    subst this
    unfold f_S_airFor_L15
    rw [if_pos (show (9 : Int32) < nI 10 by decide), s_f3]
    rfl
  | succ m ih =>
    intro n j hj hn
    obtain ⟨n, rfl⟩ : ∃ n', n = n' + 1 := ⟨n - 1, by omega⟩
    unfold f_S_airFor_L15
    have h1 : ¬ (9 : Int32) < nI j := Int32.not_lt.mpr (nI_le (b := 9) (by omega) (by decide))
    rw [if_neg h1, if_pos (inb_n hy (by omega)), nI_clamp (by omega)]
    simp only [l_gripOf, l_weight, Option.bind_some, airV]
    by_cases hq : gripF (S 4) (S 3 y) (nI j) < weightF (S 4)
    · rw [if_pos hq, if_pos hq, ← nI_succ, ih n (j + 1) (by omega) (by omega)]
    · rw [if_neg hq, if_neg hq]
      rfl
theorem m_air_loop {y : Nat} {a : Nat → Int32} {f : Int32} (hy : y < 40) (hag : ag (S 47) a) (hf : S 47 (12 + y) = f) : ∀ (m n j : Nat), j + m = 10 → m + 2 ≤ n → f_M_airFor_L15 n (nI y) (nI j) S = orM (airV a f m j) S := by
  intro m
  induction m with
  | zero =>
    intro n j hj hn
    obtain ⟨n, rfl⟩ : ∃ n', n = n' + 1 := ⟨n - 1, by omega⟩
    have : j = 10 := by omega
    subst this
    unfold f_M_airFor_L15
    rw [if_pos (show (9 : Int32) < nI 10 by decide), m_f3]
    rfl
  | succ m ih =>
    intro n j hj hn
    obtain ⟨n, rfl⟩ : ∃ n', n = n' + 1 := ⟨n - 1, by omega⟩
    unfold f_M_airFor_L15
    have h1 : ¬ (9 : Int32) < nI j := Int32.not_lt.mpr (nI_le (b := 9) (by omega) (by decide))
    have hx := ixA (k := 12) (n := 92) (j := y) (by omega) (by omega) (by omega) (by omega)
    rw [show nI 12 = (12 : Int32) from rfl] at hx
    rw [if_neg h1, if_pos hx.1, hx.2]
    simp only [m_gripOf, m_weight, Option.bind_some, airV, hf, grip_ag hag, weight_ag hag]
    by_cases hq : gripF a f (nI j) < weightF a
    · rw [if_pos hq, if_pos hq, ← nI_succ, ih n (j + 1) (by omega) (by omega)]
    · rw [if_neg hq, if_neg hq]
      rfl
theorem p_airFor (p : Int32) : Step2 N (f_S_airFor p) (f_M_airFor p) := by
  intro S h
  unfold f_S_airFor f_M_airFor
  simp only [l_isYard, m_isYard, Option.bind_some, bI_0, s_f0, m_f0]
  by_cases hy : yardB p = false
  · simp only [hy, if_true]
    exact ⟨_, _, _, rfl, rfl, (h.find 0).up28⟩
  · have hy' : yardB p = true := by simpa using hy
    obtain ⟨j, hj, rfl⟩ := yard_n hy'
    simp only [hy', if_neg tnf]
    have hs := s_air_loop (S := S) hj 10 200 0 (by omega) (by omega)
    rw [nI_0] at hs
    rw [hs]
    refine or_step h _ (fun T hT => ?_)
    have hm := m_air_loop (S := T) (a := S 4) (f := S 3 j) hj (by rw [hT 47 (by decide)]; exact R_has h.1) (by rw [hT 47 (by decide)]; exact R_f h.1 hj) 10 200 0 (by omega) (by omega)
    rw [nI_0] at hm
    exact hm
def sackV (g : Int32) : Nat → Option Int32
  | 0 => none
  | m + 1 => if g < 20 + nI m / 2 then sackV g m else some (nI m)
theorem nI_pre (m : Nat) : nI (m + 1) - 1 = nI m := by rw [nI_succ, Int32.add_sub_cancel]
theorem nI_m1 (m : Nat) : nI m + (-1) = nI m - 1 := by rw [Int32.sub_eq_add_neg]
theorem s_sack_loop {y g : Int32} : ∀ (m n : Nat), m ≤ 100 → m + 2 ≤ n → f_S_sacksFor_L42 n y g (nI m - 1) S = orS (sackV g m) S := by
  intro m
  induction m with
  | zero =>
    intro n hj hn
    obtain ⟨n, rfl⟩ : ∃ n', n = n' + 1 := ⟨n - 1, by omega⟩
    unfold f_S_sacksFor_L42
    rw [if_pos (show nI 0 - 1 < 0 by decide), s_f3]
    rfl
  | succ m ih =>
    intro n hj hn
    obtain ⟨n, rfl⟩ : ∃ n', n = n' + 1 := ⟨n - 1, by omega⟩
    unfold f_S_sacksFor_L42 f_S_weightOf
    rw [nI_pre, if_neg (nI_pos (by omega))]
    simp only [Option.bind_some, Int32.add_zero, sackV]
    by_cases hq : g < 20 + nI m / 2
    · rw [if_pos hq, if_pos hq, nI_m1, ih n (by omega) (by omega)]
    · rw [if_neg hq, if_neg hq]
      rfl
theorem m_sack_loop {y g : Int32} (hy : yardB y = true) (hg : gripF (S 47) (S 47 (12 + y.toNatClampNeg)) (S 47 3) = g) : ∀ (m n : Nat), m ≤ 100 → m + 2 ≤ n → f_M_sacksFor_L16 n y (nI m - 1) S = orM (sackV g m) S := by
  intro m
  induction m with
  | zero =>
    intro n hj hn
    obtain ⟨n, rfl⟩ : ∃ n', n = n' + 1 := ⟨n - 1, by omega⟩
    unfold f_M_sacksFor_L16
    rw [if_pos (show nI 0 - 1 < 0 by decide), m_f3]
    rfl
  | succ m ih =>
    intro n hj hn
    obtain ⟨n, rfl⟩ : ∃ n', n = n' + 1 := ⟨n - 1, by omega⟩
    unfold f_M_sacksFor_L16
    rw [nI_pre, if_neg (nI_pos (by omega)), m_grip hy, hg]
    simp only [Option.bind_some, sackV]
    by_cases hq : g < 20 + nI m / 2
    · rw [if_pos hq, if_pos hq, nI_m1, ih n (by omega) (by omega)]
    · rw [if_neg hq, if_neg hq]
      rfl
theorem e99 : nI 100 - 1 = (99 : Int32) := nI_pre 99
theorem p_sacksFor (p : Int32) : Step2 N (f_S_sacksFor p) (f_M_sacksFor p) := by
  intro S h
  unfold f_S_sacksFor f_M_sacksFor
  simp only [l_isYard, m_isYard, Option.bind_some, bI_0, s_f0, m_f0]
  by_cases hy : yardB p = false
  · simp only [hy, if_true]
    exact ⟨_, _, _, rfl, rfl, (h.find 0).up28⟩
  · have hy' : yardB p = true := by simpa using hy
    obtain ⟨j, hj, rfl⟩ := yard_n hy'
    simp only [hy', if_neg tnf, inb_n hj (show 40 < 1000000 by omega), if_true, nI_clamp (show j < 2 ^ 31 by omega)]
    rw [l_gripOf, Option.bind_some]
    have hs := s_sack_loop (S := S) (y := nI j) (g := gripF (S 4) (S 3 j) (S 4 3)) 100 200 (by omega) (by omega)
    rw [e99] at hs
    rw [hs]
    refine or_step h _ (fun T hT => ?_)
    have hm := m_sack_loop (S := T) (y := nI j) (g := gripF (S 4) (S 3 j) (S 4 3)) hy' (by
      rw [nI_clamp (show j < 2 ^ 31 by omega), hT 47 (by decide), R_f h.1 hj, R_has h.1 3 (by decide), grip_ag (R_has h.1)]) 100 200 (by omega) (by omega)
    rw [e99] at hm
    exact hm
end METH6
