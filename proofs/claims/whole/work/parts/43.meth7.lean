/-! ===== tries ahead: gives, lasts, out, way ===== -/
section METH7
variable {N : Int} {S : St}
def bgM (S : St) : St := va_up S 49 (lay92 (S 47) (S 49))
def trM (S : St) (b : Nat → Int32) : St := va_up (bgM S) 47 (lay92 (lay92 (S 47) (S 49)) b)
theorem bgM_47 : bgM S 47 = S 47 := vu_ne _ _ (by decide)
theorem bgM_49 : bgM S 49 = lay92 (S 47) (S 49) := vu_self _ _ _
theorem bgM_ne {c : Nat} (hc : c ≠ 49) : bgM S c = S c := vu_ne _ _ hc
theorem bgM_eq : bgM S = va_up (bgM S) 47 (S 47) := by
  have := vu_id (bgM S) 47
  rw [bgM_47] at this
  exact this.symm
theorem m_bg : f_M_begin S = some (bgM S) := m_begin S
theorem m_bk {b : Nat → Int32} : f_M_layBack (va_up (bgM S) 47 b) = some (trM S b) := by
  rw [m_layBack, vu_self, vu_ne _ _ (by decide), bx_uu, bgM_49]
  rfl
def Mq (S T : St) : Prop := (∀ c, c ≠ 47 → c ≠ 49 → T c = S c) ∧ ∀ i, i < 92 → T 47 i = S 47 i
theorem Mq.rf : Mq S S := ⟨fun _ _ _ => rfl, fun _ _ => rfl⟩
theorem Mq.tr {T U : St} (h : Mq S T) (h2 : Mq T U) : Mq S U := ⟨fun c a b => (h2.1 c a b).trans (h.1 c a b), fun i hi => (h2.2 i hi).trans (h.2 i hi)⟩
theorem trM_q {b : Nat → Int32} : Mq S (trM S b) := by
  refine ⟨fun c h1 h2 => ?_, fun i hi => ?_⟩
  · unfold trM
    rw [vu_ne _ _ h1, bgM_ne h2]
  · unfold trM
    rw [vu_self]
    simp only [lay92, hi, if_true]
def Sq (S T : St) : Prop := ∀ c, c ≠ 23 → T c = S c
theorem Sq.up {a : Nat → Int32} : Sq S (va_up S 23 a) := fun c hc => vu_ne _ _ hc
theorem Inv.q {T U : St} (h : Inv N S) (h1 : Sq S T) (h2 : Mq T U) : Inv N U := by
  have e : ∀ c, c ≠ 23 → c ≠ 47 → c ≠ 49 → U c = S c := fun c a b d => (h2.1 c b d).trans (h1 c a)
  refine h.sameR (fun c hc => e c ?_ ?_ ?_) ?_ ?_ ?_ (fun i hi => ?_)
  · have : (c < 9 ∨ (10 ≤ c ∧ c ≤ 14) ∨ 35 ≤ c) ∧ c ≠ 46 ∧ c ≠ 47 ∧ c ≠ 49 ∧ c ≠ 52 ∧ c ≠ 56 := hc
    omega
  · exact hc.2.2.1
  · exact hc.2.2.2.1
  · rw [e 34 (by decide) (by decide) (by decide)]
  · rw [e 46 (by decide) (by decide) (by decide)]
  · rw [e 46 (by decide) (by decide) (by decide)]
  · rw [h2.2 i hi, h1 47 (by decide)]
theorem Mq.ag {T : St} {a : Nat → Int32} (h : Mq S T) (ha : ag (S 47) a) : ag (T 47) a := fun i hi => (h.2 i (by omega)).trans (ha i hi)
theorem Mq.agF {T : St} {f : Nat → Int32} (h : Mq S T) (hf : agF (fun i => S 47 (12 + i)) f) : agF (fun i => T 47 (12 + i)) f := fun i hi => (h.2 (12 + i) (by omega)).trans (hf i hi)
theorem l_since0 {c g h c1 g1 h1 : Nat} : f_L_since c g h c1 g1 h1 0 S = some (S h 0 - S h1 0, S) := rfl
theorem l_since7 {c g h c1 g1 h1 : Nat} : f_L_since c g h c1 g1 h1 7 S = some (S h 7 - S h1 7, S) := rfl
theorem l_since8 {c g h c1 g1 h1 : Nat} : f_L_since c g h c1 g1 h1 8 S = some (S h 8 - S h1 8, S) := rfl
theorem m_bec {b : Nat → Int32} {p : Int32} : f_M_became p (va_up (bgM S) 47 b) = some ((if p = 0 then b 0 - S 47 0 else (if p = 1 then b 7 - S 47 7 else (if p = 2 then b 8 - S 47 8 else b 1))), trM S b) := by
  unfold f_M_became
  rw [m_bk, vu_self, vu_ne _ _ (by decide), bgM_49]
  rfl
theorem m_carB {T : St} {b a fm : Nat → Int32} {k : Int32} (hk : 0 ≤ k ∧ k < 8) (hab : ag b a) (hb : Bd a N) (hN : N < 1999000000) : f_M_canDo k (va_up T 47 b) = some (canB a k, va_up T 47 b) := by
  rw [(m_carT (S := T) hk (Bd_ag hab.sy hb) hN).1, can_ag hab]
theorem p_gives (hN : N < 1900000000) (p q : Int32) : Step2 N (f_S_gives p q) (f_M_gives p q) := by
  intro S h
  have hag := R_has h.1
  have hb := h.1.1.1
  have hb47 := Bd_ag hag.sy hb
  have hm : MinOK (S 47) := hb47.min (by omega)
  unfold f_S_gives f_M_gives
  simp only [l_isSlot, m_isSlot, m_in, Option.bind_some, bI_0, s_f0, m_f0, s_f3, m_f3, s_f4, m_f4]
  by_cases hy : slotB p = false
  · simp only [hy, if_true]
    exact ⟨_, _, _, rfl, rfl, (h.find 0).up28⟩
  · have hy' : slotB p = true := by simpa using hy
    obtain ⟨j, hj, rfl⟩ := slotB_t hy'
    have hx := ixA (k := 52) (n := 92) (j := j) (by omega) (by omega) (by omega) (by omega)
    rw [show nI 52 = (52 : Int32) from rfl] at hx
    simp only [hy', if_neg tnf]
    by_cases h1 : q < 0
    · simp only [h1, if_true, inB_lo h1]
      exact ⟨_, _, _, rfl, rfl, (h.find 0).up28⟩
    by_cases h2 : q ≤ 3
    case neg =>
      simp only [h1, h2, if_false, inB_hi (Int32.not_le.mp h2), if_true]
      exact ⟨_, _, _, rfl, rfl, (h.find 0).up28⟩
    simp only [h1, h2, if_true, if_false, inB_ok h1 h2, if_neg tnf, inb_n hj (show 10 < 1000000 by omega), nI_clamp (show j < 2 ^ 31 by omega), hx.1, hx.2]
    by_cases hne : S 5 j = -1
    · simp only [hne, if_true]
      refine ⟨_, _, _, rfl, ?_, (h.find 3).up28⟩
      simp only [fnS_ne (show 47 ≠ 45 by decide), R_sl h.1 hj, hne, if_true]
    · have hk := slot_kind h hj hne
      have ha0 : ag (cp10 (S 4) (S 23)) (S 4) := cp10_ag _ _
      have hba := Bd_ag ha0.sy hb
      simp only [hne, if_false, l_become, Option.bind_some, l_carT hk hba, can_ag ha0]
      by_cases hc : canB (S 4) (S 5 j) = true
      · have hsq : Sq S (va_up S 23 (carV (S 3) (cp10 (S 4) (S 23)) (S 5 j))) := Sq.up
        have e47 := hsq 47 (by decide)
        have e4 := hsq 4 (by decide)
        have hca := car_ag (show agF (S 3) (S 3) from fun _ _ => rfl) ha0 (S 5 j)
        have hcm := car_ag (fm_ag h.1) hag (S 5 j)
        have hmod : ∀ T : St, Sq S T → (∃ r, f_M_gives (nI j) q T = some (r, trM T (carV (fun i => T 47 (12 + i)) (S 47) (S 5 j))) ∧ r = (if q = 0 then carV (S 3) (S 4) (S 5 j) 0 - S 4 0 else (if q = 1 then carV (S 3) (S 4) (S 5 j) 7 - S 4 7 else (if q = 2 then carV (S 3) (S 4) (S 5 j) 8 - S 4 8 else carV (S 3) (S 4) (S 5 j) 1)))) := by
          intro T hT
          have t47 := hT 47 (by decide)
          refine ⟨_, ?_, rfl⟩
          unfold f_M_gives
          simp only [m_isSlot, m_in, Option.bind_some, bI_0, hy', if_neg tnf, inB_ok h1 h2, hx.1, hx.2, if_true, t47, R_sl h.1 hj, hne, if_false]
          rw [m_canDo (S := T) _ hk (by rw [t47]; exact hm), t47, can_ag hag, hc, Option.bind_some]
          simp only [if_neg tnf]
          rw [m_bg, Option.bind_some, bgM_eq, t47, (m_carT (S := bgM T) hk hb47 (by omega)).2, Option.bind_some, m_bec, Option.bind_some, t47]
          simp only [hcm 0 (by decide), hcm 7 (by decide), hcm 8 (by decide), hcm 1 (by decide), hag 0 (by decide), hag 7 (by decide), hag 8 (by decide)]
        simp only [hc, if_true, if_neg tnf]
        obtain ⟨r, hr, er⟩ := hmod _ hsq
        refine ⟨r, va_up S 23 (carV (S 3) (cp10 (S 4) (S 23)) (S 5 j)), _, ?_, ?_, (h.q hsq (trM_q (b := carV (fun i => va_up S 23 (carV (S 3) (cp10 (S 4) (S 23)) (S 5 j)) 47 (12 + i)) (S 47) (S 5 j)))).up28⟩
        · rw [er]
          by_cases q0 : q = 0
          · simp only [q0, if_true]
            rw [l_since0, e4, vu_self, hca 0 (by decide)]
            rfl
          by_cases q1 : q = 1
          · simp only [q0, q1, if_true, if_false]
            rw [l_since7, e4, vu_self, hca 7 (by decide)]
            rfl
          by_cases q2 : q = 2
          · simp only [q0, q1, q2, if_true, if_false]
            rw [l_since8, e4, vu_self, hca 8 (by decide)]
            rfl
          · simp only [q0, q1, q2, if_false]
            rw [vu_self, hca 1 (by decide)]
        · have := hr
          unfold f_M_gives at this
          simp only [m_isSlot, m_in, Option.bind_some, bI_0, hy', if_neg tnf, inB_ok h1 h2, hx.1, hx.2, if_true, m_f3, m_f4] at this
          exact this
      · have hc' : canB (S 4) (S 5 j) = false := by simpa using hc
        simp only [hc', if_true, Bool.false_eq_true, if_false]
        have e47 : fnS 4 (va_up S 23 (cp10 (S 4) (S 23))) 47 = S 47 := by rw [fnS_ne (by decide), vu_ne _ _ (by decide)]
        have hI : Inv N (va_up S 23 (cp10 (S 4) (S 23))) := h.q Sq.up Mq.rf
        refine ⟨_, _, _, rfl, ?_, (hI.find 4).up28⟩
        simp only [e47, R_sl h.1 hj, hne, if_false, m_canDo (S := fnS 4 (va_up S 23 (cp10 (S 4) (S 23)))) _ hk (by rw [e47]; exact hm), Option.bind_some, can_ag hag, hc', if_true]
theorem p_lasts (hN : N < 1900000000) (p : Int32) : Step2 N (f_S_lasts p) (f_M_lasts p) := by
  intro S h
  have hag := R_has h.1
  have hb := h.1.1.1
  have hb47 := Bd_ag hag.sy hb
  unfold f_S_lasts f_M_lasts
  simp only [l_isSlot, m_isSlot, Option.bind_some, bI_0, s_f0, m_f0, s_f3, m_f3]
  by_cases hy : slotB p = false
  · simp only [hy, if_true]
    exact ⟨_, _, _, rfl, rfl, (h.find 0).up28⟩
  · have hy' : slotB p = true := by simpa using hy
    obtain ⟨j, hj, rfl⟩ := slotB_t hy'
    have hx := ixA (k := 52) (n := 92) (j := j) (by omega) (by omega) (by omega) (by omega)
    rw [show nI 52 = (52 : Int32) from rfl] at hx
    simp only [hy', if_neg tnf, inb_n hj (show 10 < 1000000 by omega), nI_clamp (show j < 2 ^ 31 by omega), hx.1, hx.2, if_true]
    by_cases hne : S 5 j = -1
    · simp only [hne, if_true]
      refine ⟨_, _, _, rfl, ?_, (h.find 3).up28⟩
      simp only [fnS_ne (show 47 ≠ 45 by decide), R_sl h.1 hj, hne, if_true]
    · have hk := slot_kind h hj hne
      have ha0 : ag (cp10 (S 4) (S 23)) (S 4) := cp10_ag _ _
      have hba := Bd_ag ha0.sy hb
      have hs := s_lasts_loop (S := S) (p := nI j) hk 50 200 0 _ N (by omega) (by omega) hba (by omega)
      rw [nI_0, Nat.zero_add, (agn_ag (show agF (S 3) (S 3) from fun _ _ => rfl) (S 5 j) 50 _ _ ha0).1] at hs
      have hm := m_again_loop (S := bgM (va_up S 23 (agn (S 3) (S 5 j) 50 (cp10 (S 4) (S 23))).2)) (fm := fun i => S 47 (12 + i)) hk 50 (by omega) 50 200 0 (S 47) N (by omega) (by omega) hb47 (by omega) (fun _ => rfl)
      rw [show nI 50 = (50 : Int32) from rfl] at hm
      rw [nI_0, Nat.zero_add, (agn_ag (fm_ag h.1) (S 5 j) 50 _ _ hag).1] at hm
      have t47 : va_up S 23 (agn (S 3) (S 5 j) 50 (cp10 (S 4) (S 23))).2 47 = S 47 := vu_ne _ _ (by decide)
      refine ⟨nI (agn (S 3) (S 5 j) 50 (S 4)).1, va_up S 23 (agn (S 3) (S 5 j) 50 (cp10 (S 4) (S 23))).2, _, ?_, ?_, (h.q (Sq.up (a := (agn (S 3) (S 5 j) 50 (cp10 (S 4) (S 23))).2)) (trM_q (b := (agn (fun i => S 47 (12 + i)) (S 5 j) 50 (S 47)).2))).up28⟩
      · rw [if_neg hne, l_become, Option.bind_some]
        exact hs
      · rw [t47, R_sl h.1 hj, if_neg hne, m_bg, Option.bind_some, bgM_47, t47, R_sl h.1 hj]
        unfold f_M_again
        rw [bgM_eq, t47, hm, Option.bind_some, m_bk, Option.bind_some]
def tillV (fm : Nat → Int32) (k : Int32) (most : Nat) (a : Nat → Int32) : Int32 := if outB (agn fm k most a).2 = false then (-1) else nI (agn fm k most a).1
theorem s_till {k : Int32} (hk : 0 ≤ k ∧ k < 8) (most : Nat) (hm : most ≤ 50) (hb : Bd (S 4) N) (hN : N < 1900000000) : ∃ T, f_S_timesTillOut k (nI most) S = some (tillV (S 3) k most (S 4), T) ∧ Sq S T := by
  have ha0 : ag (cp10 (S 4) (S 23)) (S 4) := cp10_ag _ _
  have hba := Bd_ag ha0.sy hb
  have hs := s_till_loop (S := S) hk most hm most 200 0 _ N (by omega) (by omega) hba (by omega)
  have hg := agn_ag (show agF (S 3) (S 3) from fun _ _ => rfl) k most _ _ ha0
  rw [nI_0, Nat.zero_add, hg.1, out_ag hg.2] at hs
  have e : f_S_timesTillOut k (nI most) S = f_S_timesTillOut_L13 200 k (nI most) 0 (va_up S 23 (cp10 (S 4) (S 23))) := by
    unfold f_S_timesTillOut
    rw [l_become, Option.bind_some]
  exact ⟨_, e.trans hs, Sq.up⟩
theorem m_outBy {k : Int32} {a fm : Nat → Int32} (hk : 0 ≤ k ∧ k < 8) (most : Nat) (hm : most ≤ 50) (hag : ag (S 47) a) (hf : agF (fun i => S 47 (12 + i)) fm) (hb : Bd a N) (hN : N < 1900000000) : ∃ T, f_M_outBy k (nI most) S = some (tillV fm k most a, T) ∧ Mq S T := by
  have hl := m_again_loop (S := bgM S) (fm := fun i => S 47 (12 + i)) hk most hm most 200 0 (S 47) N (by omega) (by omega) (Bd_ag hag.sy hb) (by omega) (fun _ => rfl)
  have hg := agn_ag hf k most _ _ hag
  rw [nI_0, Nat.zero_add, hg.1] at hl
  refine ⟨trM S (agn (fun i => S 47 (12 + i)) k most (S 47)).2, ?_, trM_q⟩
  unfold f_M_outBy f_M_again
  rw [m_bg, Option.bind_some, bgM_eq, hl, Option.bind_some]
  dsimp only
  rw [m_isOut, Option.bind_some]
  dsimp only
  rw [m_bk, Option.bind_some, vu_self, out_ag hg.2]
  simp only [bI_0]
  rfl
theorem p_out (hN : N < 1900000000) (p : Int32) : Step2 N (f_S_out p) (f_M_out p) := by
  intro S h
  have hag := R_has h.1
  have hb := h.1.1.1
  unfold f_S_out f_M_out
  simp only [l_isSlot, m_isSlot, Option.bind_some, bI_0, s_f0, m_f0, s_f3, m_f3]
  by_cases hy : slotB p = false
  · simp only [hy, if_true]
    exact ⟨_, _, _, rfl, rfl, (h.find 0).up28⟩
  · have hy' : slotB p = true := by simpa using hy
    obtain ⟨j, hj, rfl⟩ := slotB_t hy'
    have hx := ixA (k := 52) (n := 92) (j := j) (by omega) (by omega) (by omega) (by omega)
    rw [show nI 52 = (52 : Int32) from rfl] at hx
    simp only [hy', if_neg tnf, inb_n hj (show 10 < 1000000 by omega), nI_clamp (show j < 2 ^ 31 by omega), hx.1, hx.2, if_true]
    by_cases hne : S 5 j = -1
    · simp only [hne, if_true]
      refine ⟨_, _, _, rfl, ?_, (h.find 3).up28⟩
      simp only [fnS_ne (show 47 ≠ 45 by decide), R_sl h.1 hj, hne, if_true]
    · have hk := slot_kind h hj hne
      obtain ⟨T, hs, hq⟩ := s_till (S := S) hk 50 (by omega) hb hN
      rw [show nI 50 = (50 : Int32) from rfl] at hs
      rw [if_neg hne, hs, Option.bind_some]
      generalize hv : tillV (S 3) (S 5 j) 50 (S 4) = v at hs
      have hmod : ∀ U, (∀ c, c ≠ 23 → c ≠ 45 → U c = S c) → ∃ W, f_M_outBy (S 5 j) 50 U = some (v, W) ∧ Mq U W := by
        intro U hU
        obtain ⟨W, h1, h2⟩ := m_outBy (S := U) (a := S 4) (fm := S 3) hk 50 (by omega) (by rw [hU 47 (by decide) (by decide)]; exact hag) (by rw [hU 47 (by decide) (by decide)]; exact fm_ag h.1) hb hN
        rw [hv, show nI 50 = (50 : Int32) from rfl] at h1
        exact ⟨W, h1, h2⟩
      by_cases hp : 0 ≤ v
      · obtain ⟨W, h1, h2⟩ := hmod T (fun c a _ => hq c a)
        refine ⟨v, T, W, ?_, ?_, (h.q hq h2).up28⟩
        · rw [if_pos hp]
        · rw [hq 47 (by decide), R_sl h.1 hj, if_neg hne, h1, Option.bind_some, if_pos hp]
      · have hI : Inv N T := h.q hq Mq.rf
        obtain ⟨W, h1, h2⟩ := hmod (fnS 3 T) (fun c a b => (fnS_ne b).trans (hq c a))
        have hW : Inv N (fnM 3 W) := by
          have hf := hI.find 3
          have e : ∀ c, c ≠ 47 → c ≠ 49 → fnM 3 W c = fnM 3 (fnS 3 T) c := by
            intro c a b
            unfold fnM
            rw [h2.1 50 (by decide) (by decide)]
            by_cases hc : c = 50
            · subst hc; rw [put_vu, put_vu, vu_self, vu_self, h2.1 50 (by decide) (by decide)]
            · rw [put_vu, put_vu, vu_ne _ _ hc, vu_ne _ _ hc, h2.1 c a b]
          have e2 : ∀ i, i < 92 → fnM 3 W 47 i = fnM 3 (fnS 3 T) 47 i := by
            intro i hi
            unfold fnM
            rw [put_vu, put_vu, vu_ne _ _ (by decide), vu_ne _ _ (by decide), h2.2 i hi]
          exact hf.q (fun _ _ => rfl) ⟨e, e2⟩
        refine ⟨(-1000001) - 3, fnS 3 T, fnM 3 W, ?_, ?_, hW.up28⟩
        · rw [if_neg hp]
        · rw [fnS_ne (by decide), hq 47 (by decide), R_sl h.1 hj, if_neg hne, h1, Option.bind_some, if_neg hp]
theorem p_way (hN : N < 1900000000) : Step2 N f_S_way f_M_way := by
  intro S h
  have hag := R_has h.1
  have hb := h.1.1.1
  obtain ⟨T1, hs1, q1⟩ := s_till (S := S) (k := 0) (by decide) 20 (by omega) hb hN
  obtain ⟨T2, hs2, q2⟩ := s_till (S := T1) (k := 6) (by decide) 20 (by omega) (by rw [q1 4 (by decide)]; exact hb) hN
  rw [q1 3 (by decide), q1 4 (by decide)] at hs2
  have q12 : Sq S T2 := fun c hc => (q2 c hc).trans (q1 c hc)
  obtain ⟨U1, hm1, r1⟩ := m_outBy (S := T2) (a := S 4) (fm := S 3) (k := 0) (by decide) 20 (by omega) (by rw [q12 47 (by decide)]; exact hag) (by rw [q12 47 (by decide)]; exact fm_ag h.1) hb hN
  obtain ⟨U2, hm2, r2⟩ := m_outBy (S := U1) (a := S 4) (fm := S 3) (k := 6) (by decide) 20 (by omega) (r1.ag (by rw [q12 47 (by decide)]; exact hag)) (r1.agF (by rw [q12 47 (by decide)]; exact fm_ag h.1)) hb hN
  rw [show nI 20 = (20 : Int32) from rfl] at hs1 hs2 hm1 hm2
  generalize tillV (S 3) 0 20 (S 4) = u at *
  generalize tillV (S 3) 6 20 (S 4) = v at *
  have key : (if 0 ≤ u then (if v < 0 then 1 else (if u < 0 then (-1) else (if v < u then (-1) else 1))) else (if 0 ≤ v then (if v < 0 then 1 else (if u < 0 then (-1) else (if v < u then (-1) else 1))) else 0)) = (if u < 0 then (if v < 0 then (0 : Int32) else (-1)) else (if v < 0 then 1 else (if v < u then (if v < 0 then 0 else (-1)) else 1))) := by
    have lu : (0 ≤ u) ↔ ¬ u < 0 := Int32.not_lt.symm
    have lv : (0 ≤ v) ↔ ¬ v < 0 := Int32.not_lt.symm
    simp only [lu, lv]
    by_cases hu : u < 0
    · by_cases hv : v < 0 <;> simp [hu, hv]
    · by_cases hv : v < 0
      · simp [hu, hv]
      · by_cases hw : v < u <;> simp [hu, hv, hw]
  refine ⟨(if 0 ≤ u then (if v < 0 then 1 else (if u < 0 then (-1) else (if v < u then (-1) else 1))) else (if 0 ≤ v then (if v < 0 then 1 else (if u < 0 then (-1) else (if v < u then (-1) else 1))) else 0)), T2, U2, ?_, ?_, (h.q q12 (r1.tr r2)).up28⟩
  · unfold f_S_way
    rw [hs1, Option.bind_some]
    dsimp only
    rw [hs2, Option.bind_some]
    dsimp only
    show _ = some ((if 0 ≤ u then (if v < 0 then 1 else (if u < 0 then (-1) else (if v < u then (-1) else 1))) else (if 0 ≤ v then (if v < 0 then 1 else (if u < 0 then (-1) else (if v < u then (-1) else 1))) else 0)), T2)
    by_cases hu : 0 ≤ u
    · rw [if_pos hu, if_pos hu]
    · rw [if_neg hu, if_neg hu]
      by_cases hv : 0 ≤ v
      · rw [if_pos hv, if_pos hv]
      · rw [if_neg hv, if_neg hv]
  · unfold f_M_way
    rw [hm1, Option.bind_some]
    dsimp only
    rw [hm2, Option.bind_some]
    dsimp only
    rw [key]
end METH7
