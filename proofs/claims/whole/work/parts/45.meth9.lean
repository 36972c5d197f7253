/-! ===== follow, plans ===== -/
section METH9
variable {N : Int} {S : St}
def plV (fm pl : Nat → Int32) (nn : Int32) : Nat → Nat → (Nat → Int32) → Nat × (Nat → Int32)
  | 0, j, a => (j, a)
  | m + 1, j, a => if nn ≤ nI j then (j, a) else (if canB a (pl j) = true then plV fm pl nn m (j + 1) (carV fm a (pl j)) else (j, a))
theorem plV_s {fm pl : Nat → Int32} {nn : Int32} {m j : Nat} {a : Nat → Int32} : plV fm pl nn (m + 1) j a = if nn ≤ nI j then (j, a) else (if canB a (pl j) = true then plV fm pl nn m (j + 1) (carV fm a (pl j)) else (j, a)) := by rw [plV]
theorem plV_ag {fm fm2 pl : Nat → Int32} {nn : Int32} (hf : agF fm fm2) : ∀ (m j : Nat) (a b : Nat → Int32), ag a b → (plV fm pl nn m j a).1 = (plV fm2 pl nn m j b).1 ∧ ag (plV fm pl nn m j a).2 (plV fm2 pl nn m j b).2 := by
  intro m
  induction m with
  | zero => intro j a b h; exact ⟨rfl, h⟩
  | succ m ih =>
    intro j a b h
    rw [plV_s, plV_s, can_ag h]
    split
    · exact ⟨rfl, h⟩
    · split
      · exact ih _ _ _ (car_ag hf h _)
      · exact ⟨rfl, h⟩
theorem plV_hi {fm pl : Nat → Int32} {nn : Int32} {i : Nat} (hi : 10 ≤ i) : ∀ (m j : Nat) (a : Nat → Int32), (plV fm pl nn m j a).2 i = a i := by
  intro m
  induction m with
  | zero => intro j a; rfl
  | succ m ih =>
    intro j a
    rw [plV_s]
    split
    · rfl
    · split
      · rw [ih, car_hi hi]
      · rfl
theorem plV_bd {fm pl : Nat → Int32} {nn : Int32} : ∀ (m j : Nat) (a : Nat → Int32) (N : Int), Bd a N → N + 1440 * m < 1999000000 → Bd (plV fm pl nn m j a).2 (N + 1440 * m) := by
  intro m
  induction m with
  | zero => intro j a N h _; exact Bd_le h (by omega)
  | succ m ih =>
    intro j a N h hN
    rw [plV_s]
    split
    · exact Bd_le h (by omega)
    · split
      · exact Bd_le (ih _ _ (N + 1440) (Bd_car h (by omega)) (by omega)) (by omega)
      · exact Bd_le h (by omega)
/-- the plan's kinds -/
def Pk (nn : Int32) (pl : Nat → Int32) : Prop := (0 ≤ nn.toInt ∧ nn.toInt ≤ 20) ∧ ∀ i : Nat, (i : Int) < nn.toInt → 0 ≤ (pl i).toInt ∧ (pl i).toInt ≤ 7
theorem Pk.kind {nn : Int32} {pl : Nat → Int32} (h : Pk nn pl) {j : Nat} (hj : j < 100) (hn : ¬ nn ≤ nI j) : (0 ≤ pl j ∧ pl j < 8) ∧ j < 20 := by
  rw [i_le, nI_toInt (by omega)] at hn
  obtain ⟨a, b⟩ := h.2 j (by omega)
  refine ⟨⟨by rw [i_le, i0]; exact a, by rw [i_lt, show (8 : Int32).toInt = 8 from rfl]; omega⟩, ?_⟩
  have := h.1.2
  omega
theorem Pk.end {nn : Int32} {pl : Nat → Int32} (h : Pk nn pl) : nn ≤ nI 20 := by
  rw [i_le, nI_toInt (by omega)]
  exact h.1.2
theorem Inv.pk (h : Inv N S) : Pk (S 1 5) (S 7) := ⟨h.1.1.2.2.2.1, h.1.1.2.2.2.2⟩
/-- one of the plan, by the lorry at h -/
theorem s_step {c h : Nat} (hh : h ≠ 1 ∧ h ≠ 3 ∧ h ≠ 7) (hp : Pk (S 1 5) (S 7)) {j : Nat} (hj : j < 100) {a : Nat → Int32} (hb : Bd a N) : f_C_isStepDoneBy c 3 h (nI j) (va_up S h a) = some (if S 1 5 ≤ nI j then (false, va_up S h a) else (canB a (S 7 j), va_up S h (if canB a (S 7 j) = true then carV (S 3) a (S 7 j) else a))) := by
  have h0 : ¬ nI j < 0 := by rw [i_lt, nI_toInt (by omega), i0]; omega
  unfold f_C_isStepDoneBy
  rw [if_neg h0, vu_ne _ _ (Ne.symm hh.1)]
  by_cases hq : S 1 5 ≤ nI j
  · rw [if_pos hq, if_pos hq]
  · obtain ⟨hk, hj20⟩ := hp.kind hj hq
    have h1 : ¬ (20 : Int32) ≤ nI j := nI_ge (b := 20) hj20 (by decide)
    rw [if_neg hq, if_neg hq, if_neg h1, if_pos (inb_n hj20 (by omega)), nI_clamp (by omega), vu_ne _ _ (Ne.symm hh.2.2), l_carriesOut (c := c) (g := 3) (h := h) (Ne.symm hh.2.1) hk (by rw [vu_self]; exact hb.b0) (by rw [vu_self]; exact hb.b1), Option.bind_some, vu_self, vu_ne _ _ (Ne.symm hh.2.1), bx_uu]
    simp only [bI_0]
    cases canB a (S 7 j) <;> rfl
theorem s_plan_loop {c h : Nat} (hh : h ≠ 1 ∧ h ≠ 3 ∧ h ≠ 7) (hp : Pk (S 1 5) (S 7)) : ∀ (m n j : Nat) (a : Nat → Int32) (N : Int), j + m = 20 → m + 2 ≤ n → Bd a N → N + 1440 * m < 1999000000 → f_C_planDoneBy_L2 c 3 h n (nI j) (va_up S h a) = some (nI (plV (S 3) (S 7) (S 1 5) m j a).1, va_up S h (plV (S 3) (S 7) (S 1 5) m j a).2) := by
  intro m
  induction m with
  | zero =>
    intro n j a N hj hn hb hN
    obtain ⟨n, rfl⟩ : ∃ n', n = n' + 1 := ⟨n - 1, by omega⟩
    have : j = 20 := by omega
    subst this
    rw [f_C_planDoneBy_L2, if_pos (show (20 : Int32) ≤ nI 20 by decide)]
    rfl
  | succ m ih =>
    intro n j a N hj hn hb hN
    obtain ⟨n, rfl⟩ : ∃ n', n = n' + 1 := ⟨n - 1, by omega⟩
    have h1 : ¬ (20 : Int32) ≤ nI j := nI_ge (b := 20) (by omega) (by decide)
    rw [f_C_planDoneBy_L2, if_neg h1, s_step hh hp (by omega) hb, plV_s, Option.bind_some]
    by_cases hq : S 1 5 ≤ nI j
    · rw [if_pos hq, if_pos hq]
      dsimp only
      rw [if_pos (show bI false = 0 from rfl)]
    · rw [if_neg hq, if_neg hq]
      simp only [bI_0]
      by_cases hc : canB a (S 7 j) = true
      · rw [if_neg (by rw [hc]; decide), if_pos hc, if_pos hc, ← nI_succ, ih n (j + 1) _ (N + 1440) (by omega) (by omega) (Bd_car hb (by omega)) (by omega)]
      · rw [if_pos (by simpa using hc), if_neg hc, if_neg hc]
theorem m_fol_loop {fm pl : Nat → Int32} {nn : Int32} (hp : Pk nn pl) : ∀ (m n j : Nat) (b : Nat → Int32) (N : Int), j + m = 20 → m + 2 ≤ n → Bd b N → N + 1440 * m < 1999000000 → (∀ i, b (12 + i) = fm i) → b 11 = nn → (∀ i, i < 20 → b (72 + i) = pl i) → f_M_follows_L2 n (nI j) (va_up S 47 b) = some (nI (plV fm pl nn m j b).1, va_up S 47 (plV fm pl nn m j b).2) := by
  intro m
  induction m with
  | zero =>
    intro n j b N hj hn hb hN hf h11 h72
    obtain ⟨n, rfl⟩ : ∃ n', n = n' + 1 := ⟨n - 1, by omega⟩
    have : j = 20 := by omega
    subst this
    rw [f_M_follows_L2, vu_self, h11, if_pos hp.end]
    rfl
  | succ m ih =>
    intro n j b N hj hn hb hN hf h11 h72
    obtain ⟨n, rfl⟩ : ∃ n', n = n' + 1 := ⟨n - 1, by omega⟩
    rw [f_M_follows_L2, vu_self, h11, plV_s]
    by_cases hq : nn ≤ nI j
    · rw [if_pos hq, if_pos hq]
    · obtain ⟨hk, hj20⟩ := hp.kind (by omega) hq
      have hx := ixA (k := 72) (n := 92) (j := j) (by omega) (by omega) (by omega) (by omega)
      rw [show nI 72 = (72 : Int32) from rfl] at hx
      obtain ⟨e1, e2⟩ := m_carT (S := S) hk hb (by omega)
      have efm : (fun i => b (12 + i)) = fm := funext hf
      rw [if_neg hq, if_neg hq, if_pos hx.1, hx.2, h72 j hj20, e1, Option.bind_some]
      simp only [bI_0]
      by_cases hc : canB b (pl j) = true
      · rw [if_neg (by rw [hc]; decide), if_pos hc, vu_self, h72 j hj20, e2, Option.bind_some, efm, ← nI_succ]
        exact ih n (j + 1) _ (N + 1440) (by omega) (by omega) (Bd_car hb (by omega)) (by omega) (fun i => by rw [car_hi (by omega)]; exact hf i) (by rw [car_hi (by omega)]; exact h11) (fun i hi => by rw [car_hi (by omega)]; exact h72 i hi)
      · rw [if_pos (by simpa using hc), if_neg hc]
theorem p_follow (hN : N < 1900000000) : Step2 N f_S_follow f_M_follow := by
  intro S h
  have hag := R_has h.1
  have hb := h.1.1.1
  have hb47 := Bd_ag hag.sy hb
  have hs := s_plan_loop (S := S) (c := 2) (h := 4) (by decide) h.pk 20 200 0 (S 4) N (by omega) (by omega) hb (by omega)
  rw [nI_0, vu_id] at hs
  have hm := m_fol_loop (S := va_up S 4 (plV (S 3) (S 7) (S 1 5) 20 0 (S 4)).2) (fm := fun i => S 47 (12 + i)) h.pk 20 200 0 (S 47) N (by omega) (by omega) hb47 (by omega) (fun _ => rfl) (R_n h.1) (fun i hi => R_pl h.1 hi)
  have e47 : va_up S 4 (plV (S 3) (S 7) (S 1 5) 20 0 (S 4)).2 47 = S 47 := vu_ne _ _ (by decide)
  have hg := plV_ag (pl := S 7) (nn := S 1 5) (fm_ag h.1) 20 0 _ _ hag
  have em2 : va_up (va_up S 4 (plV (S 3) (S 7) (S 1 5) 20 0 (S 4)).2) 47 (S 47) = va_up S 4 (plV (S 3) (S 7) (S 1 5) 20 0 (S 4)).2 := by
    rw [← e47]; exact vu_id _ _
  rw [nI_0, em2, hg.1] at hm
  refine ⟨nI (plV (S 3) (S 7) (S 1 5) 20 0 (S 4)).1, va_up S 4 (plV (S 3) (S 7) (S 1 5) 20 0 (S 4)).2, va_up (va_up S 4 (plV (S 3) (S 7) (S 1 5) 20 0 (S 4)).2) 47 (plV (fun i => S 47 (12 + i)) (S 7) (S 1 5) 20 0 (S 47)).2, ?_, ?_, h.setCar (Bd_le (plV_bd 20 0 (S 4) N hb (by omega)) (by omega)) hg.2 (fun i hi => plV_hi hi 20 0 (S 47))⟩
  · unfold f_S_follow f_C_planDoneBy
    rw [hs, Option.bind_some]
  · unfold f_M_follow f_M_follows
    rw [hm, Option.bind_some]
theorem p_plans (hN : N < 1900000000) (p : Int32) : Step2 N (f_S_plans p) (f_M_plans p) := by
  intro S h
  have hag := R_has h.1
  have hb := h.1.1.1
  have hb47 := Bd_ag hag.sy hb
  unfold f_S_plans f_M_plans
  simp only [m_in, Option.bind_some, bI_0, s_f0, m_f0]
  by_cases h1 : p < 0
  · simp only [h1, if_true, inB_lo h1]
    exact ⟨_, _, _, rfl, rfl, (h.find 0).up28⟩
  by_cases h2 : p ≤ 3
  case neg =>
    simp only [h1, h2, if_false, inB_hi (Int32.not_le.mp h2), if_true]
    exact ⟨_, _, _, rfl, rfl, (h.find 0).up28⟩
  simp only [h1, h2, if_true, if_false, inB_ok h1 h2, if_neg tnf]
  have ha0 : ag (cp10 (S 4) (S 23)) (S 4) := cp10_ag _ _
  have hba := Bd_ag ha0.sy hb
  have hs := s_plan_loop (S := S) (c := 22) (h := 23) (by decide) h.pk 20 200 0 _ N (by omega) (by omega) hba (by omega)
  have hgs := plV_ag (pl := S 7) (nn := S 1 5) (show agF (S 3) (S 3) from fun _ _ => rfl) 20 0 _ _ ha0
  rw [nI_0, hgs.1] at hs
  generalize hx : (plV (S 3) (S 7) (S 1 5) 20 0 (cp10 (S 4) (S 23))).2 = x at hs hgs
  have hm := m_fol_loop (S := bgM (va_up S 23 x)) (fm := fun i => S 47 (12 + i)) h.pk 20 200 0 (S 47) N (by omega) (by omega) hb47 (by omega) (fun _ => rfl) (R_n h.1) (fun i hi => R_pl h.1 hi)
  have e47 : va_up S 23 x 47 = S 47 := vu_ne _ _ (by decide)
  have e4 : va_up S 23 x 4 = S 4 := vu_ne _ _ (by decide)
  have hg := plV_ag (pl := S 7) (nn := S 1 5) (fm_ag h.1) 20 0 _ _ hag
  rw [nI_0, hg.1] at hm
  generalize hb2 : (plV (fun i => S 47 (12 + i)) (S 7) (S 1 5) 20 0 (S 47)).2 = b2 at hm hg
  generalize hd : (plV (S 3) (S 7) (S 1 5) 20 0 (S 4)).1 = d at hm hs
  generalize hy : (plV (S 3) (S 7) (S 1 5) 20 0 (S 4)).2 = y at hg hgs
  refine ⟨if p = 0 then nI d else if p = 1 then y 0 - S 4 0 else if p = 2 then y 8 - S 4 8 else y 7 - S 4 7, va_up S 23 x, trM (va_up S 23 x) b2, ?_, ?_, (h.q Sq.up trM_q).up28⟩
  · rw [l_become, Option.bind_some]
    unfold f_C_planDoneBy
    rw [hs, Option.bind_some]
    dsimp only
    rw [l_since0, l_since8, l_since7, Option.bind_some, Option.bind_some, Option.bind_some, e4, vu_self, hgs.2 0 (by decide), hgs.2 8 (by decide), hgs.2 7 (by decide)]
    by_cases p0 : p = 0
    · rw [if_pos p0, if_pos p0]
    · rw [if_neg p0, if_neg p0]
      by_cases p1 : p = 1
      · rw [if_pos p1, if_pos p1]
      · rw [if_neg p1, if_neg p1]
        by_cases p2 : p = 2
        · rw [if_pos p2, if_pos p2]
        · rw [if_neg p2, if_neg p2]
  · rw [m_bg, Option.bind_some]
    unfold f_M_follows
    rw [bgM_eq, e47, hm, Option.bind_some]
    dsimp only
    rw [m_bec, Option.bind_some, e47, hg.2 0 (by decide), hg.2 8 (by decide), hg.2 7 (by decide), hag 0 (by decide), hag 7 (by decide), hag 8 (by decide)]
    congr 2
    by_cases p0 : p = 0
    · rw [if_pos p0, if_pos p0]
    · rw [if_neg p0, if_neg p0]
      by_cases p1 : p = 1
      · rw [if_pos p1, if_pos p1, if_pos rfl]
      · rw [if_neg p1, if_neg p1]
        by_cases p2 : p = 2
        · rw [if_pos p2, if_pos p2, if_neg (by decide), if_neg (by decide), if_pos rfl]
        · rw [if_neg p2, if_neg p2, if_neg (by decide), if_pos rfl]
end METH9
