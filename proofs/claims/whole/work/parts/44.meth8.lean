/-! ===== when, boardsFor ===== -/
section METH8
variable {N : Int} {S : St}
def orW (v : Int32) (S : St) : Option (Int32 × St) := if 0 ≤ v then some (v, S) else some ((-1000001) - 3, fnS 3 S)
def orMW (v : Int32) (S : St) : Option (Int32 × St) := if 0 ≤ v then some (v, S) else some ((-1000001) - 3, fnM 3 S)
theorem orW_step (h : Inv N S) {T : St} (hq : Sq S T) (v : Int32) {fM : St → Option (Int32 × St)} (hM : ∀ U, (∀ c, c ≠ 23 → c ≠ 45 → U c = S c) → ∃ W, fM U = orMW v W ∧ Mq U W) : ∃ r S1 S2, orW v T = some (r, S1) ∧ fM S1 = some (r, S2) ∧ Inv (N + 28800) S2 := by
  unfold orW
  by_cases hp : 0 ≤ v
  · obtain ⟨W, h1, h2⟩ := hM T (fun c a _ => hq c a)
    unfold orMW at h1
    rw [if_pos hp] at h1 ⊢
    exact ⟨_, _, _, rfl, h1, (h.q hq h2).up28⟩
  · have hI : Inv N T := h.q hq Mq.rf
    obtain ⟨W, h1, h2⟩ := hM (fnS 3 T) (fun c a b => (fnS_ne b).trans (hq c a))
    have hW : Inv N (fnM 3 W) := by
      have hf := hI.find 3
      have e : ∀ c, c ≠ 47 → c ≠ 49 → fnM 3 W c = fnM 3 (fnS 3 T) c := by
        intro c a b
        unfold fnM
        rw [h2.1 50 (by decide) (by decide)]
        by_cases hc : c = 50
        · subst hc; rw [put_vu, put_vu, vu_self, vu_self, h2.1 50 (by decide) (by decide)]
        · rw [put_vu, put_vu, vu_ne _ _ hc, vu_ne _ _ hc, h2.1 c a b]
      have e2 : ∀ i, i < 92 → fnM 3 W 47 i = fnM 3 (fnS 3 T) 47 i := by
        intro i hi
        unfold fnM
        rw [put_vu, put_vu, vu_ne _ _ (by decide), vu_ne _ _ (by decide), h2.2 i hi]
      exact hf.q (fun _ _ => rfl) ⟨e, e2⟩
    unfold orMW at h1
    rw [if_neg hp] at h1 ⊢
    exact ⟨_, _, _, rfl, h1, hW.up28⟩
def whA (a : Nat → Int32) (j : Nat) : Nat → Int32 := if j = 0 then a else upd a 7 ((a 7 / 60 + nI j) * 60)
theorem whA_ag {a b : Nat → Int32} (h : ag a b) (j : Nat) : ag (whA a j) (whA b j) := by
  unfold whA
  split
  · exact h
  · rw [h 7 (by decide)]
    exact h.up 7 _
theorem whA_hi {a : Nat → Int32} {j i : Nat} (hi : 10 ≤ i) : whA a j i = a i := by
  unfold whA
  split
  · rfl
  · rw [upd_app, if_neg (by omega)]
theorem whA_bd {a : Nat → Int32} {j : Nat} (hb : Bd a N) (hj : j < 24) (hN : N < 1900000000) : Bd (whA a j) (N + 1440) := by
  unfold whA
  split
  · exact Bd_le hb (by omega)
  · obtain ⟨h0, h1, h2, h3, h4, h5, h7⟩ := hb
    refine ⟨h0, h1, h2, h3, h4, h5, ?_⟩
    rw [upd_app, if_pos rfl]
    obtain ⟨m, hm, e⟩ := nI_of (x := a 7) (by rw [i_lt, i0]; omega)
    rw [e, nI_toInt hm] at h7
    have e2 : (nI m / 60 + nI j) * 60 = nI ((m / 60 + j) * 60) := by
      rw [show (60 : Int32) = nI 60 from rfl, pk_div hm (by omega) (by omega), nI_add, pk_mul]
    rw [e, e2, nI_toInt (by omega)]
    omega
def whV (fm a : Nat → Int32) (k : Int32) : Nat → Nat → Int32 → Int32 → Int32
  | 0, _, be, _ => be
  | m + 1, j, be, mo => if canB (whA a j) k = true then (if be < 0 then whV fm a k m (j + 1) (hourF (whA a j)) (carV fm (whA a j) k 0 - a 0) else (if carV fm (whA a j) k 0 - a 0 ≤ mo then whV fm a k m (j + 1) be mo else whV fm a k m (j + 1) (hourF (whA a j)) (carV fm (whA a j) k 0 - a 0))) else whV fm a k m (j + 1) be mo
theorem whV_s {fm a : Nat → Int32} {k : Int32} {m j : Nat} {be mo : Int32} : whV fm a k (m + 1) j be mo = if canB (whA a j) k = true then (if be < 0 then whV fm a k m (j + 1) (hourF (whA a j)) (carV fm (whA a j) k 0 - a 0) else (if carV fm (whA a j) k 0 - a 0 ≤ mo then whV fm a k m (j + 1) be mo else whV fm a k m (j + 1) (hourF (whA a j)) (carV fm (whA a j) k 0 - a 0))) else whV fm a k m (j + 1) be mo := by rw [whV]
theorem l_becT {x : Nat → Int32} : f_L_become 22 3 23 2 3 4 (va_up S 23 x) = some (va_up S 23 (cp10 (S 4) x)) := by
  rw [l_become, vu_self, vu_ne _ _ (by decide), bx_uu]
theorem l_pass {y : Nat → Int32} {j : Nat} (hj : j < 24) : f_L_passHours 22 3 23 (nI j) (va_up S 23 y) = some (va_up S 23 (whA y j)) := by
  unfold f_L_passHours whA
  by_cases h0 : j = 0
  · subst h0
    rw [if_pos (show nI 0 ≤ 0 by decide), if_pos rfl]
  · rw [if_neg (nI_nle (by omega) (by omega)), if_neg h0, vu_self, put_vu, vu_self, bx_uu]
theorem s_when_loop {k p : Int32} (hk : 0 ≤ k ∧ k < 8) (hb : Bd (S 4) N) (hN : N < 1900000000) : ∀ (m n j : Nat) (be mo : Int32) (x : Nat → Int32), j + m = 24 → m + 2 ≤ n → ∃ x2, f_S_when_L42 n p k be mo (nI j) (va_up S 23 x) = orW (whV (S 3) (S 4) k m j be mo) (va_up S 23 x2) := by
  intro m
  induction m with
  | zero =>
    intro n j be mo x hj hn
    obtain ⟨n, rfl⟩ : ∃ n', n = n' + 1 := ⟨n - 1, by omega⟩
    have : j = 24 := by omega
    subst this
    refine ⟨x, ?_⟩
    unfold f_S_when_L42
    rw [if_pos (show (24 : Int32) ≤ nI 24 by decide), s_f3]
    rfl
  | succ m ih =>
    intro n j be mo x hj hn
    obtain ⟨n, rfl⟩ : ∃ n', n = n' + 1 := ⟨n - 1, by omega⟩
    have ha0 : ag (cp10 (S 4) x) (S 4) := cp10_ag _ _
    have haw := whA_ag ha0 j
    have hbw : Bd (whA (cp10 (S 4) x) j) (N + 1440) := whA_bd (Bd_ag ha0.sy hb) (by omega) hN
    have h1 : ¬ (24 : Int32) ≤ nI j := nI_ge (b := 24) (by omega) (by decide)
    have e : f_S_when_L42 (n + 1) p k be mo (nI j) (va_up S 23 x) = (if canB (whA (S 4) j) k = false then f_S_when_L42 n p k be mo (nI (j + 1)) (va_up S 23 (if canB (whA (S 4) j) k = true then carV (S 3) (whA (cp10 (S 4) x) j) k else whA (cp10 (S 4) x) j)) else (if be < 0 then f_S_when_L42 n p k (hourF (whA (S 4) j)) (carV (S 3) (whA (S 4) j) k 0 - S 4 0) (nI (j + 1)) (va_up S 23 (carV (S 3) (whA (cp10 (S 4) x) j) k)) else (if carV (S 3) (whA (S 4) j) k 0 - S 4 0 ≤ mo then f_S_when_L42 n p k be mo (nI (j + 1)) (va_up S 23 (carV (S 3) (whA (cp10 (S 4) x) j) k)) else f_S_when_L42 n p k (hourF (whA (S 4) j)) (carV (S 3) (whA (S 4) j) k 0 - S 4 0) (nI (j + 1)) (va_up S 23 (carV (S 3) (whA (cp10 (S 4) x) j) k))))) := by
      rw [f_S_when_L42]
      rw [if_neg h1, l_becT, Option.bind_some, l_pass (by omega), Option.bind_some, l_hour, Option.bind_some]
      dsimp only
      rw [l_carT hk hbw, Option.bind_some, vu_self, hour_ag haw, can_ag haw, nI_succ]
      simp only [bI_0]
      by_cases hc : canB (whA (S 4) j) k = false
      · rw [if_pos hc, if_pos hc]
      · have hc' : canB (whA (S 4) j) k = true := by simpa using hc
        rw [if_neg hc, if_neg hc, if_pos hc', l_since0, Option.bind_some]
        dsimp only
        rw [vu_self, vu_ne _ _ (by decide), car_ag (show agF (S 3) (S 3) from fun _ _ => rfl) haw k 0 (by decide)]
    rw [e, whV_s]
    by_cases hc : canB (whA (S 4) j) k = true
    · rw [if_neg (by rw [hc]; decide), if_pos hc]
      by_cases hbe : be < 0
      · rw [if_pos hbe, if_pos hbe]
        exact ih n (j + 1) _ _ _ (by omega) (by omega)
      · rw [if_neg hbe, if_neg hbe]
        split
        · exact ih n (j + 1) _ _ _ (by omega) (by omega)
        · exact ih n (j + 1) _ _ _ (by omega) (by omega)
    · rw [if_pos (by simpa using hc), if_neg hc, if_neg hc]
      exact ih n (j + 1) _ _ _ (by omega) (by omega)
theorem m_whA {T : St} {j : Nat} (hj : j < 24) : put (bgM T) 47 7 (if nI j = 0 then bgM T 47 7 else (bgM T 47 7 / 60 + nI j) * 60) = va_up (bgM T) 47 (whA (T 47) j) := by
  rw [put_vu, bgM_47]
  unfold whA
  by_cases h0 : j = 0
  · subst h0
    rw [if_pos nI_0, if_pos rfl, upd_same]
  · rw [if_neg (nI_ne0 (by omega) (by omega)), if_neg h0]
theorem m_when_loop {k p : Int32} {a fm : Nat → Int32} (hk : 0 ≤ k ∧ k < 8) (hk1 : ¬ k = -1) (hag : ag (S 47) a) (hf : agF (fun i => S 47 (12 + i)) fm) (hb : Bd a N) (hN : N < 1900000000) : ∀ (m n j : Nat) (be mo : Int32) (T : St), j + m = 24 → m + 2 ≤ n → Mq S T → ∃ W, f_M_when_L31 n p k be mo (nI j) T = orMW (whV fm a k m j be mo) W ∧ Mq S W := by
  intro m
  induction m with
  | zero =>
    intro n j be mo T hj hn hq
    obtain ⟨n, rfl⟩ : ∃ n', n = n' + 1 := ⟨n - 1, by omega⟩
    have : j = 24 := by omega
    subst this
    refine ⟨T, ?_, hq⟩
    unfold f_M_when_L31
    rw [if_pos (show (24 : Int32) ≤ nI 24 by decide), m_f3]
    rfl
  | succ m ih =>
    intro n j be mo T hj hn hq
    obtain ⟨n, rfl⟩ : ∃ n', n = n' + 1 := ⟨n - 1, by omega⟩
    have hagT := hq.ag hag
    have haw := whA_ag hagT j
    have hbw : Bd (whA (T 47) j) (N + 1440) := whA_bd (Bd_ag hagT.sy hb) (by omega) hN
    have hfw : agF (fun i => whA (T 47) j (12 + i)) fm := fun i hi => (whA_hi (by omega)).trans (hq.agF hf i hi)
    have h1 : ¬ (24 : Int32) ≤ nI j := nI_ge (b := 24) (by omega) (by decide)
    have e : f_M_when_L31 (n + 1) p k be mo (nI j) T = (if canB (whA a j) k = false then f_M_when_L31 n p k be mo (nI (j + 1)) (trM T (whA (T 47) j)) else (if be < 0 then f_M_when_L31 n p k (hourF (whA a j)) (carV fm (whA a j) k 0 - a 0) (nI (j + 1)) (trM T (carV (fun i => whA (T 47) j (12 + i)) (whA (T 47) j) k)) else (if carV fm (whA a j) k 0 - a 0 ≤ mo then f_M_when_L31 n p k be mo (nI (j + 1)) (trM T (carV (fun i => whA (T 47) j (12 + i)) (whA (T 47) j) k)) else f_M_when_L31 n p k (hourF (whA a j)) (carV fm (whA a j) k 0 - a 0) (nI (j + 1)) (trM T (carV (fun i => whA (T 47) j (12 + i)) (whA (T 47) j) k))))) := by
      rw [f_M_when_L31]
      rw [if_neg h1, if_neg hk1, m_bg, Option.bind_some]
      dsimp only
      rw [m_whA (by omega), (m_carT (S := bgM T) hk hbw (by omega)).1, Option.bind_some]
      dsimp only
      rw [can_ag haw, nI_succ]
      simp only [bI_0]
      by_cases hc : canB (whA a j) k = false
      · rw [if_pos hc, if_pos hc, m_bk, Option.bind_some]
      · rw [if_neg hc, if_neg hc, m_hour, Option.bind_some]
        dsimp only
        rw [(m_carT (S := bgM T) hk hbw (by omega)).2, Option.bind_some, vu_self, vu_self, vu_ne _ _ (by decide), bgM_49, m_bk, Option.bind_some, Option.bind_some, hour_ag haw]
        have e0 : lay92 (T 47) (T 49) 0 = a 0 := hagT 0 (by decide)
        rw [e0, car_ag hfw haw k 0 (by decide)]
    rw [e, whV_s]
    by_cases hc : canB (whA a j) k = true
    · rw [if_neg (by rw [hc]; decide), if_pos hc]
      by_cases hbe : be < 0
      · rw [if_pos hbe, if_pos hbe]
        exact ih n (j + 1) _ _ _ (by omega) (by omega) (hq.tr trM_q)
      · rw [if_neg hbe, if_neg hbe]
        split
        · exact ih n (j + 1) _ _ _ (by omega) (by omega) (hq.tr trM_q)
        · exact ih n (j + 1) _ _ _ (by omega) (by omega) (hq.tr trM_q)
    · rw [if_pos (by simpa using hc), if_neg hc]
      exact ih n (j + 1) _ _ _ (by omega) (by omega) (hq.tr trM_q)
theorem p_when (hN : N < 1900000000) (p : Int32) : Step2 N (f_S_when p) (f_M_when p) := by
  intro S h
  have hag := R_has h.1
  have hb := h.1.1.1
  unfold f_S_when f_M_when
  simp only [l_isSlot, m_isSlot, Option.bind_some, bI_0, s_f0, m_f0, s_f3]
  by_cases hy : slotB p = false
  · simp only [hy, if_true]
    exact ⟨_, _, _, rfl, rfl, (h.find 0).up28⟩
  · have hy' : slotB p = true := by simpa using hy
    obtain ⟨j, hj, rfl⟩ := slotB_t hy'
    have hx := ixA (k := 52) (n := 92) (j := j) (by omega) (by omega) (by omega) (by omega)
    rw [show nI 52 = (52 : Int32) from rfl] at hx
    simp only [hy', if_neg tnf, inb_n hj (show 10 < 1000000 by omega), nI_clamp (show j < 2 ^ 31 by omega), hx.1, hx.2, if_true]
    by_cases hne : S 5 j = -1
    · rw [if_pos hne]
      refine ⟨(-1000001) - 3, fnS 3 S, fnM 3 (fnS 3 S), rfl, ?_, (h.find 3).up28⟩
      rw [fnS_ne (show 47 ≠ 45 by decide), R_sl h.1 hj, hne, f_M_when_L31, if_neg (by decide), if_pos rfl, if_neg (by decide), m_f3]
      rfl
    · have hk := slot_kind h hj hne
      obtain ⟨x2, hs⟩ := s_when_loop (S := S) (p := nI j) hk hb hN 24 200 0 (-1) 0 (S 23) (by omega) (by omega)
      rw [nI_0, vu_id] at hs
      rw [if_neg hne, hs]
      refine orW_step h Sq.up _ (fun U hU => ?_)
      have u47 := hU 47 (by decide) (by decide)
      obtain ⟨W, hw1, hw2⟩ := m_when_loop (S := U) (p := nI j) (a := S 4) (fm := S 3) hk hne (by rw [u47]; exact hag) (by rw [u47]; exact fm_ag h.1) hb hN 24 200 0 (-1) 0 U (by omega) (by omega) Mq.rf
      rw [nI_0] at hw1
      refine ⟨W, ?_, hw2⟩
      rw [u47, R_sl h.1 hj]
      exact hw1
def bdV (fm a : Nat → Int32) (n : Int32) : Nat → Nat → Int32
  | 0, _ => -1
  | m + 1, j => if canB (upd a 4 (nI j)) 2 = true then (if carV fm (upd a 4 (nI j)) 2 0 - a 0 < n then bdV fm a n m (j + 1) else nI j) else bdV fm a n m (j + 1)
theorem bdV_s {fm a : Nat → Int32} {n : Int32} {m j : Nat} : bdV fm a n (m + 1) j = if canB (upd a 4 (nI j)) 2 = true then (if carV fm (upd a 4 (nI j)) 2 0 - a 0 < n then bdV fm a n m (j + 1) else nI j) else bdV fm a n m (j + 1) := by rw [bdV]
theorem bd4 {a : Nat → Int32} {j : Nat} (hb : Bd a N) (hj : j < 9) : Bd (upd a 4 (nI j)) N := by
  obtain ⟨h0, h1, h2, h3, h4, h5, h7⟩ := hb
  refine ⟨h0, h1, h2, h3, ?_, h5, h7⟩
  rw [upd_app, if_pos rfl, nI_toInt (by omega)]
  omega
theorem s_bd_loop {v : Int32} (hb : Bd (S 4) N) : ∀ (m n j : Nat) (x : Nat → Int32), j + m = 9 → m + 2 ≤ n → ∃ x2, f_S_boardsFor_L19 n v (nI j) (va_up S 23 x) = orW (bdV (S 3) (S 4) v m j) (va_up S 23 x2) := by
  intro m
  induction m with
  | zero =>
    intro n j x hj hn
    obtain ⟨n, rfl⟩ : ∃ n', n = n' + 1 := ⟨n - 1, by omega⟩
    have : j = 9 := by omega
    subst this
    refine ⟨x, ?_⟩
    rw [f_S_boardsFor_L19]
    rw [if_pos (show (8 : Int32) < nI 9 by decide), s_f3]
    rfl
  | succ m ih =>
    intro n j x hj hn
    obtain ⟨n, rfl⟩ : ∃ n', n = n' + 1 := ⟨n - 1, by omega⟩
    have ha0 : ag (cp10 (S 4) x) (S 4) := cp10_ag _ _
    have haw := ha0.up 4 (nI j)
    have hbw : Bd (upd (cp10 (S 4) x) 4 (nI j)) N := bd4 (Bd_ag ha0.sy hb) (by omega)
    have h1 : ¬ (8 : Int32) < nI j := Int32.not_lt.mpr (nI_le (b := 8) (by omega) (by decide))
    rw [f_S_boardsFor_L19, if_neg h1, l_becT, Option.bind_some]
    dsimp only
    rw [put_vu, vu_self, bx_uu, l_carT (by decide) hbw, Option.bind_some, can_ag haw, bdV_s, ← nI_succ]
    simp only [bI_0]
    by_cases hc : canB (upd (S 4) 4 (nI j)) 2 = true
    · rw [if_neg (by rw [hc]; decide), if_pos hc, if_pos hc, l_since0, Option.bind_some]
      dsimp only
      rw [vu_self, vu_ne _ _ (by decide), car_ag (show agF (S 3) (S 3) from fun _ _ => rfl) haw 2 0 (by decide)]
      split
      · exact ih n (j + 1) _ (by omega) (by omega)
      · refine ⟨carV (S 3) (upd (cp10 (S 4) x) 4 (nI j)) 2, ?_⟩
        unfold orW
        rw [if_pos (nI_pos' (by omega))]
    · rw [if_pos (by simpa using hc), if_neg hc, if_neg hc]
      exact ih n (j + 1) _ (by omega) (by omega)
theorem m_bd_end {v w y : Int32} {n : Nat} {T : St} (hw : 0 ≤ w) : f_M_boardsFor_L20 (n + 1) v w y T = orMW w T := by
  rw [f_M_boardsFor_L20]
  unfold orMW
  simp only [if_pos hw, ite_self]
theorem m_bd_loop {v : Int32} {a fm : Nat → Int32} (hag : ag (S 47) a) (hf : agF (fun i => S 47 (12 + i)) fm) (hb : Bd a N) (hN : N < 1900000000) : ∀ (m n j : Nat) (T : St), j + m = 9 → m + 2 ≤ n → Mq S T → ∃ W, f_M_boardsFor_L20 n v (-1) (nI j) T = orMW (bdV fm a v m j) W ∧ Mq S W := by
  intro m
  induction m with
  | zero =>
    intro n j T hj hn hq
    obtain ⟨n, rfl⟩ : ∃ n', n = n' + 1 := ⟨n - 1, by omega⟩
    have : j = 9 := by omega
    subst this
    refine ⟨T, ?_, hq⟩
    rw [f_M_boardsFor_L20]
    rw [if_pos (show (8 : Int32) < nI 9 by decide), if_neg (by decide), m_f3]
    rfl
  | succ m ih =>
    intro n j T hj hn hq
    obtain ⟨n, rfl⟩ : ∃ n', n = n' + 1 := ⟨n - 1, by omega⟩
    have hagT := hq.ag hag
    have haw := hagT.up 4 (nI j)
    have hbw : Bd (upd (T 47) 4 (nI j)) N := bd4 (Bd_ag hagT.sy hb) (by omega)
    have hfw : agF (fun i => upd (T 47) 4 (nI j) (12 + i)) fm := fun i hi => by
      show upd (T 47) 4 (nI j) (12 + i) = fm i
      rw [upd_app, if_neg (by omega)]
      exact hq.agF hf i hi
    have h1 : ¬ (8 : Int32) < nI j := Int32.not_lt.mpr (nI_le (b := 8) (by omega) (by decide))
    rw [f_M_boardsFor_L20, if_neg h1, if_neg (by decide), m_bg, Option.bind_some]
    dsimp only
    rw [put_vu, bgM_47, (m_carT (S := bgM T) (by decide) hbw (by omega)).1, Option.bind_some]
    dsimp only
    rw [can_ag haw, bdV_s]
    simp only [bI_0]
    by_cases hc : canB (upd a 4 (nI j)) 2 = true
    · rw [if_neg (by rw [hc]; decide), if_pos hc, (m_carT (S := bgM T) (by decide) hbw (by omega)).2, Option.bind_some, if_neg (by rw [hc]; decide), vu_self, vu_ne _ _ (by decide), bgM_49, m_bk, Option.bind_some]
      have e0 : lay92 (T 47) (T 49) 0 = a 0 := hagT 0 (by decide)
      rw [e0, car_ag hfw haw 2 0 (by decide)]
      by_cases hl : carV fm (upd a 4 (nI j)) 2 0 - a 0 < v
      · rw [if_pos hl, if_pos hl, ← nI_succ]
        exact ih n (j + 1) _ (by omega) (by omega) (hq.tr trM_q)
      · rw [if_neg hl, if_neg hl]
        obtain ⟨n, rfl⟩ : ∃ n', n = n' + 1 := ⟨n - 1, by omega⟩
        exact ⟨_, m_bd_end (nI_pos' (by omega)), hq.tr trM_q⟩
    · rw [if_pos (by simpa using hc), if_neg hc, if_pos (by simpa using hc), m_bk, Option.bind_some, ← nI_succ]
      exact ih n (j + 1) _ (by omega) (by omega) (hq.tr trM_q)
theorem p_boardsFor (hN : N < 1900000000) (p : Int32) : Step2 N (f_S_boardsFor p) (f_M_boardsFor p) := by
  intro S h
  have hag := R_has h.1
  have hb := h.1.1.1
  unfold f_S_boardsFor f_M_boardsFor
  simp only [m_in, Option.bind_some, bI_0, s_f0, m_f0]
  by_cases h1 : p < 1
  · simp only [h1, if_true, inB_lo h1]
    exact ⟨_, _, _, rfl, rfl, (h.find 0).up28⟩
  · by_cases h2 : p ≤ 9
    · simp only [h1, h2, if_true, if_false, inB_ok h1 h2, if_neg tnf]
      obtain ⟨x2, hs⟩ := s_bd_loop (S := S) (v := p) hb 9 200 0 (S 23) (by omega) (by omega)
      rw [nI_0, vu_id] at hs
      rw [hs]
      refine orW_step h Sq.up _ (fun U hU => ?_)
      have u47 := hU 47 (by decide) (by decide)
      obtain ⟨W, hw1, hw2⟩ := m_bd_loop (S := U) (v := p) (a := S 4) (fm := S 3) (by rw [u47]; exact hag) (by rw [u47]; exact fm_ag h.1) hb hN 9 200 0 U (by omega) (by omega) Mq.rf
      rw [nI_0] at hw1
      exact ⟨W, hw1, hw2⟩
    · simp only [h1, h2, if_false, inB_hi (Int32.not_le.mp h2), if_true]
      exact ⟨_, _, _, rfl, rfl, (h.find 0).up28⟩
end METH8
