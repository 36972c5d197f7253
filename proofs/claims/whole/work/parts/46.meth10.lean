/-! ===== waterFor, judge ===== -/
section METH10
variable {N : Int} {S : St}
theorem upd6_push {fm a : Nat → Int32} {step li x : Int32} {bon : Int32 → Int32} : pushV fm (upd a 6 x) step bon li = ((pushV fm a step bon li).1, upd (pushV fm a step bon li).2 6 x) := by
  unfold pushV
  have e0 : upd a 6 x 0 = a 0 := rfl
  have e1 : upd a 6 x 1 = a 1 := rfl
  have e3 : upd a 6 x 3 = a 3 := rfl
  have e9 : upd a 6 x 9 = a 9 := rfl
  have ew : weightF (upd a 6 x) = weightF a := rfl
  have eg : ∀ f r, gripF (upd a 6 x) f r = gripF a f r := fun _ _ => rfl
  rw [e0, e1, e3, e9, ew, eg]
  by_cases hy : yardB (a 0) = false
  · rw [if_pos hy, if_pos hy]
  · rw [if_neg hy, if_neg hy]
    split
    · rw [upd_comm (i := 6) (j := 9) (by decide), upd_comm (i := 6) (j := 0) (by decide), upd_comm (i := 6) (j := 1) (by decide)]
    · rw [upd_comm (i := 6) (j := 9) (by decide), upd_comm (i := 6) (j := 1) (by decide)]
theorem upd8_push {fm a : Nat → Int32} {step li x : Int32} {bon : Int32 → Int32} : pushV fm (upd a 8 x) step bon li = ((pushV fm a step bon li).1, upd (pushV fm a step bon li).2 8 x) := by
  unfold pushV
  have e0 : upd a 8 x 0 = a 0 := rfl
  have e1 : upd a 8 x 1 = a 1 := rfl
  have e3 : upd a 8 x 3 = a 3 := rfl
  have e9 : upd a 8 x 9 = a 9 := rfl
  have ew : weightF (upd a 8 x) = weightF a := rfl
  have eg : ∀ f r, gripF (upd a 8 x) f r = gripF a f r := fun _ _ => rfl
  rw [e0, e1, e3, e9, ew, eg]
  by_cases hy : yardB (a 0) = false
  · rw [if_pos hy, if_pos hy]
  · rw [if_neg hy, if_neg hy]
    split
    · rw [upd_comm (i := 8) (j := 9) (by decide), upd_comm (i := 8) (j := 0) (by decide), upd_comm (i := 8) (j := 1) (by decide)]
    · rw [upd_comm (i := 8) (j := 9) (by decide), upd_comm (i := 8) (j := 1) (by decide)]
theorem upd6_it {fm : Nat → Int32} {step li x : Int32} {bon : Int32 → Int32} : ∀ (m : Nat) (a : Nat → Int32), itV fm step bon li m (upd a 6 x) = upd (itV fm step bon li m a) 6 x := by
  intro m
  induction m with
  | zero => intro a; rfl
  | succ m ih =>
    intro a
    rw [itV, itV, upd6_push]
    dsimp only
    split
    · exact ih _
    · rfl
theorem upd8_it {fm : Nat → Int32} {step li x : Int32} {bon : Int32 → Int32} : ∀ (m : Nat) (a : Nat → Int32), itV fm step bon li m (upd a 8 x) = upd (itV fm step bon li m a) 8 x := by
  intro m
  induction m with
  | zero => intro a; rfl
  | succ m ih =>
    intro a
    rw [itV, itV, upd8_push]
    dsimp only
    split
    · exact ih _
    · rfl
theorem upd6_drive {fm a : Nat → Int32} {k x : Int32} : driveV fm (upd a 6 x) k = upd (driveV fm a k) 6 x := upd6_it _ _
theorem upd8_drive {fm a : Nat → Int32} {k x : Int32} : driveV fm (upd a 8 x) k = upd (driveV fm a k) 8 x := upd8_it _ _
theorem upd6_mid {a : Nat → Int32} {k x : Int32} : midV (upd a 6 x) k = upd (midV a k) 6 x := by
  unfold midV
  have e1 : upd a 6 x 1 = a 1 := rfl
  have e2 : upd a 6 x 2 = a 2 := rfl
  have e3 : upd a 6 x 3 = a 3 := rfl
  have e5 : upd a 6 x 5 = a 5 := rfl
  rw [e1, e2, e3, e5]
  split
  · rw [upd_comm (by decide)]
  · split
    · rw [upd_comm (by decide)]
    · split
      · rw [upd_comm (by decide)]
      · rfl
theorem upd8_mid {a : Nat → Int32} {k x : Int32} : midV (upd a 8 x) k = upd (midV a k) 8 x := by
  unfold midV
  have e1 : upd a 8 x 1 = a 1 := rfl
  have e2 : upd a 8 x 2 = a 2 := rfl
  have e3 : upd a 8 x 3 = a 3 := rfl
  have e5 : upd a 8 x 5 = a 5 := rfl
  rw [e1, e2, e3, e5]
  split
  · rw [upd_comm (by decide)]
  · split
    · rw [upd_comm (by decide)]
    · split
      · rw [upd_comm (by decide)]
      · rfl
theorem drink_68 {a : Nat → Int32} {k x y : Int32} : drinkF (upd (upd a 6 x) 8 y) k = drinkF a k := rfl
theorem start_68 {a : Nat → Int32} {k x y : Int32} : startV (upd (upd a 6 x) 8 y) k = upd (upd (startV a k) 6 (x - drinkF a k)) 8 (y + drinkF a k) := by
  unfold startV
  rw [drink_68]
  have em : minF (upd (upd a 6 x) 8 y) k = minF a k := rfl
  have e7 : upd (upd a 6 x) 8 y 7 = a 7 := rfl
  have e6 : upd (upd a 6 x) 8 y 6 = x := rfl
  have e8 : upd (upd a 6 x) 8 y 8 = y := rfl
  rw [em, e7, e6, e8]
  rw [upd_comm (i := 8) (j := 7) (by decide), upd_comm (i := 8) (j := 6) (by decide), upd_upd]
  rw [upd_comm (i := 6) (j := 7) (by decide), upd_upd]
  rw [upd_comm (a := upd (upd a 7 (a 7 + minF a k)) 6 (a 6 - drinkF a k)) (i := 8) (j := 6) (by decide), upd_upd, upd_upd]
/-- water and what is drunk ride along -/
theorem car_68 {fm a : Nat → Int32} {k x y : Int32} : carV fm (upd (upd a 6 x) 8 y) k = upd (upd (carV fm a k) 6 (x - drinkF a k)) 8 (y + drinkF a k) := by
  unfold carV
  rw [start_68]
  split
  · rfl
  · rw [upd8_mid, upd6_mid, upd8_drive, upd6_drive]
theorem id_68 (a : Nat → Int32) : upd (upd a 6 (a 6)) 8 (a 8) = a := by rw [upd_same, upd_same]
theorem car_6 {fm a : Nat → Int32} {k : Int32} : carV fm a k 6 = a 6 - drinkF a k ∧ carV fm a k 8 = a 8 + drinkF a k := by
  have := car_68 (fm := fm) (a := a) (k := k) (x := a 6) (y := a 8)
  rw [id_68] at this
  refine ⟨?_, ?_⟩
  · rw [this]; rfl
  · rw [this]; rfl
theorem heat_n (a : Nat → Int32) : ∃ q : Nat, q ≤ 3 ∧ heatF a = nI q := by
  unfold heatF
  repeat' split
  all_goals first | exact ⟨1, by decide, rfl⟩ | exact ⟨2, by decide, rfl⟩ | exact ⟨3, by decide, rfl⟩
theorem work_n (k : Int32) : ∃ q : Nat, q ≤ 4 ∧ workF k = nI q := by
  unfold workF
  repeat' split
  all_goals first | exact ⟨3, by decide, rfl⟩ | exact ⟨2, by decide, rfl⟩ | exact ⟨0, by decide, rfl⟩ | exact ⟨4, by decide, rfl⟩
theorem drink_n {a : Nat → Int32} {k : Int32} (hb : Bd a N) (hN : N < 1999000000) : ∃ d : Nat, d ≤ 2880 ∧ drinkF a k = nI d := by
  obtain ⟨q, hq, eq⟩ := heat_n a
  obtain ⟨w, hw, ew⟩ := work_n k
  have hm := min_bd (k := k) (hb.min (by omega))
  obtain ⟨m, hm2, em⟩ := nI_of (x := minF a k) (by rw [i_lt, i0]; omega)
  rw [em, nI_toInt hm2] at hm
  have h5 := hb.2.2.2.2.2.1
  obtain ⟨p, hp, ep⟩ := nI_of (x := a 5) (by rw [i_lt, i0]; omega)
  rw [ep, nI_toInt hp] at h5
  have b1 : p * (w + 1) ≤ 8 * 5 := Nat.mul_le_mul (by omega) (by omega)
  have b2 : p * (w + 1) * q ≤ 8 * 5 * 3 := Nat.mul_le_mul b1 hq
  have b3 : p * (w + 1) * q * m ≤ 8 * 5 * 3 * 1440 := Nat.mul_le_mul b2 (by omega)
  refine ⟨p * (w + 1) * q * m / 60, by omega, ?_⟩
  unfold drinkF
  rw [eq, ew, em, ep, ← nI_succ, pk_mul, pk_mul, pk_mul, show (60 : Int32) = nI 60 from rfl, pk_div (by omega) (by omega) (by omega)]
/-- what the plan wants of water; -1: it can't be done -/
def wtV (fm pl : Nat → Int32) (nn : Int32) : Nat → Nat → (Nat → Int32) → Nat → Int32
  | 0, _, _, s => nI s
  | m + 1, j, a, s => if nn ≤ nI j then nI s else (if outB a = true then (-1) else (if s + (drinkF a (pl j)).toNatClampNeg ≤ 9999 then wtV fm pl nn m (j + 1) (carV fm a (pl j)) (s + (drinkF a (pl j)).toNatClampNeg) else (-1)))
theorem wtV_s {fm pl : Nat → Int32} {nn : Int32} {m j : Nat} {a : Nat → Int32} {s : Nat} : wtV fm pl nn (m + 1) j a s = if nn ≤ nI j then nI s else (if outB a = true then (-1) else (if s + (drinkF a (pl j)).toNatClampNeg ≤ 9999 then wtV fm pl nn m (j + 1) (carV fm a (pl j)) (s + (drinkF a (pl j)).toNatClampNeg) else (-1))) := by rw [wtV]
theorem wt_pl {fm pl : Nat → Int32} {nn d0 : Int32} (hp : Pk nn pl) : ∀ (m j : Nat) (a : Nat → Int32) (s : Nat) (N : Int), j + m = 20 → Bd a N → N + 1440 * m < 1999000000 → s ≤ 9999 → a 6 = nI (9999 - s) → a 8 = d0 + nI s → (if nn ≤ nI (plV fm pl nn m j a).1 then (plV fm pl nn m j a).2 8 - d0 else (-1)) = wtV fm pl nn m j a s ∧ (nn ≤ nI (plV fm pl nn m j a).1 → 0 ≤ wtV fm pl nn m j a s) := by
  have hd : ∀ s : Nat, d0 + nI s - d0 = nI s := fun s => by rw [Int32.add_comm, Int32.add_sub_cancel]
  intro m
  induction m with
  | zero =>
    intro j a s N hj hb hN hs h6 h8
    have : j = 20 := by omega
    subst this
    have e1 : plV fm pl nn 0 20 a = (20, a) := rfl
    have e2 : wtV fm pl nn 0 20 a s = nI s := rfl
    rw [e1, e2]
    dsimp only
    rw [if_pos hp.end, h8, hd]
    exact ⟨rfl, fun _ => nI_pos' (by omega)⟩
  | succ m ih =>
    intro j a s N hj hb hN hs h6 h8
    rw [plV_s, wtV_s]
    by_cases hq : nn ≤ nI j
    · simp only [if_pos hq]
      rw [h8, hd]
      exact ⟨rfl, fun _ => nI_pos' (by omega)⟩
    · simp only [if_neg hq]
      obtain ⟨d, hd2, ed⟩ := drink_n (k := pl j) hb (by omega)
      have ecl : (drinkF a (pl j)).toNatClampNeg = d := by rw [ed, nI_clamp (by omega)]
      by_cases ho : outB a = true
      · have hc : ¬ canB a (pl j) = true := by unfold canB; rw [if_pos ho]; decide
        simp only [if_neg hc, if_pos ho, if_neg hq]
        exact ⟨trivial, fun q => absurd q hq⟩
      · rw [if_neg ho, ecl]
        by_cases hw : s + d ≤ 9999
        · have hc : canB a (pl j) = true := by
            unfold canB
            rw [if_neg ho, ed, h6, if_pos (nI_le (by omega) (by omega))]
          rw [if_pos hc, if_pos hw]
          have c6 : carV fm a (pl j) 6 = nI (9999 - (s + d)) := by
            rw [car_6.1, h6, ed, pk_sub (by omega)]
            congr 1
            omega
          have c8 : carV fm a (pl j) 8 = d0 + nI (s + d) := by
            rw [car_6.2, h8, ed, ← nI_add, Int32.add_assoc]
          exact ih (j + 1) _ (s + d) (N + 1440) (by omega) (Bd_car hb (by omega)) (by omega) hw c6 c8
        · have hc : ¬ canB a (pl j) = true := by
            unfold canB
            rw [if_neg ho, ed, h6, if_neg (nI_ge (by omega) (by omega))]
            decide
          simp only [if_neg hc, if_neg hw, if_neg hq]
          exact ⟨trivial, fun q => absurd q hq⟩
def ag6 (a b : Nat → Int32) : Prop := ag (upd (upd a 6 0) 8 0) (upd (upd b 6 0) 8 0)
theorem ag6.out {a b : Nat → Int32} (h : ag6 a b) : outB a = outB b := out_ag (a := upd (upd a 6 0) 8 0) (b := upd (upd b 6 0) 8 0) h
theorem ag6.drink {a b : Nat → Int32} (h : ag6 a b) (k : Int32) : drinkF a k = drinkF b k := drink_ag (a := upd (upd a 6 0) 8 0) (b := upd (upd b 6 0) 8 0) h k
theorem upd68 (a : Nat → Int32) (x y u v : Int32) : upd (upd (upd (upd a 6 x) 8 y) 6 u) 8 v = upd (upd a 6 u) 8 v := by
  rw [upd_comm (i := 8) (j := 6) (by decide), upd_upd, upd_upd]
theorem ag6.car {fm fm2 a b : Nat → Int32} (hf : agF fm fm2) (h : ag6 a b) (k : Int32) : ag6 (carV fm a k) (carV fm2 b k) := by
  have h1 := car_ag hf h k
  rw [car_68, car_68] at h1
  have h2 := (h1.up 6 0).up 8 0
  rw [upd68, upd68] at h2
  exact h2
theorem ag6.w {a b : Nat → Int32} (h : ag6 a b) (x : Int32) : ag6 (upd a 6 x) b := by
  unfold ag6 at h ⊢
  rw [upd_upd]
  exact h
theorem ag6.bd {a b : Nat → Int32} (h : ag6 a b) (hb : Bd b N) : Bd a N := Bd_ag (a := upd (upd b 6 0) 8 0) (b := upd (upd a 6 0) 8 0) h.sy hb
theorem bI_t : bI true = 1 := rfl
theorem bI_f : bI false = 0 := rfl
theorem m_wt_over {nn : Int32} {pl fm : Nat → Int32} (hp : Pk nn pl) : ∀ (m n j s : Nat) (b : Nat → Int32) (N : Int), j + m = 20 → m + 3 ≤ n → Bd b N → N + 1440 * m < 1999000000 → (∀ i, b (12 + i) = fm i) → b 11 = nn → (∀ i, i < 20 → b (72 + i) = pl i) → 9999 < s → s + 2880 * m < 1000000 → ∃ W, f_M_waterFor_L10 n (nI j) (nI s) 1 (va_up (bgM S) 47 b) = orMW (-1) W ∧ Mq S W := by
  intro m
  induction m with
  | zero =>
    intro n j s b N hj hn hb hN hf h11 h72 hs hs2
    obtain ⟨n, rfl⟩ : ∃ n', n = n' + 1 := ⟨n - 1, by omega⟩
    have : j = 20 := by omega
    subst this
    refine ⟨trM S b, ?_, trM_q⟩
    have h9 : (9999 : Int32) < nI s := nI_lt (a := 9999) hs (by omega)
    rw [f_M_waterFor_L10, vu_self, h11, if_pos hp.end, m_bk, Option.bind_some, if_neg (by decide), if_pos h9, m_f3]
    rfl
  | succ m ih =>
    intro n j s b N hj hn hb hN hf h11 h72 hs hs2
    obtain ⟨n, rfl⟩ : ∃ n', n = n' + 1 := ⟨n - 1, by omega⟩
    have h9 : (9999 : Int32) < nI s := nI_lt (a := 9999) hs (by omega)
    rw [f_M_waterFor_L10, vu_self, h11]
    by_cases hq : nn ≤ nI j
    · refine ⟨trM S b, ?_, trM_q⟩
      rw [if_pos hq, m_bk, Option.bind_some, if_neg (by decide), if_pos h9, m_f3]
      rfl
    · obtain ⟨hk, hj20⟩ := hp.kind (by omega) hq
      have hx := ixA (k := 72) (n := 92) (j := j) (by omega) (by omega) (by omega) (by omega)
      rw [show nI 72 = (72 : Int32) from rfl] at hx
      have hbu : Bd (upd b 6 999999) N := hb
      obtain ⟨e1, e2⟩ := m_carT (S := bgM S) hk hbu (by omega)
      have u72' : ∀ i, i < 20 → upd b 6 999999 (72 + i) = pl i := fun i hi => (pk_un (by omega)).trans (h72 i hi)
      have u12 : ∀ i, upd b 6 999999 (12 + i) = fm i := fun i => (pk_un (by omega)).trans (hf i)
      have u11 : upd b 6 999999 11 = nn := (pk_un (by omega)).trans h11
      have u72 := u72' j hj20
      obtain ⟨d, hd2, ed⟩ := drink_n (k := pl j) hbu (by omega)
      rw [if_neg hq, if_neg (by decide), put_vu, vu_self, bx_uu]
      dsimp only
      rw [if_pos hx.1, hx.2, vu_self, u72, e1, Option.bind_some]
      simp only [bI_0]
      by_cases hc : canB (upd b 6 999999) (pl j) = true
      · rw [if_neg (by rw [hc]; decide), vu_self, u72, m_drinks (S := va_up (bgM S) 47 (upd b 6 999999)) _ hk (by rw [vu_self]; exact hbu.min (by omega)), Option.bind_some, vu_self]
        dsimp only
        rw [vu_self, u72, e2, Option.bind_some, hc, bI_t, ed, nI_add, ← nI_succ]
        have efm : (fun i => upd b 6 999999 (12 + i)) = fm := by
          funext i
          exact u12 i
        rw [efm]
        exact ih n (j + 1) (s + d) _ (N + 1440) (by omega) (by omega) (Bd_car hbu (by omega)) (by omega) (fun i => (car_hi (by omega)).trans (u12 i)) ((car_hi (by omega)).trans u11) (fun i hi => (car_hi (by omega)).trans (u72' i hi)) (Nat.lt_of_lt_of_le hs (Nat.le_add_right s d)) (by omega)
      · have hc' : canB (upd b 6 999999) (pl j) = false := by simpa using hc
        rw [if_pos hc', hc']
        obtain ⟨n, rfl⟩ : ∃ n', n = n' + 1 := ⟨n - 1, by omega⟩
        refine ⟨trM S (upd b 6 999999), ?_, trM_q⟩
        rw [f_M_waterFor_L10, vu_self, show upd b 6 999999 11 = nn from h11, if_neg hq, bI_f, if_pos rfl, m_bk, Option.bind_some, if_pos rfl, m_f3]
        rfl
theorem m_wt_loop {nn : Int32} {pl fm fm2 : Nat → Int32} (hp : Pk nn pl) (hf2 : agF fm fm2) : ∀ (m n j s : Nat) (b a : Nat → Int32) (N : Int), j + m = 20 → m + 3 ≤ n → Bd a N → N + 1440 * m < 1999000000 → (∀ i, b (12 + i) = fm i) → b 11 = nn → (∀ i, i < 20 → b (72 + i) = pl i) → s ≤ 9999 → s + 2880 * m < 1000000 → ag6 b a → ∃ W, f_M_waterFor_L10 n (nI j) (nI s) 1 (va_up (bgM S) 47 b) = orMW (wtV fm2 pl nn m j a s) W ∧ Mq S W := by
  intro m
  induction m with
  | zero =>
    intro n j s b a N hj hn hb hN hf h11 h72 hs hs2 hg
    obtain ⟨n, rfl⟩ : ∃ n', n = n' + 1 := ⟨n - 1, by omega⟩
    have : j = 20 := by omega
    subst this
    refine ⟨trM S b, ?_, trM_q⟩
    have h9 : ¬ (9999 : Int32) < nI s := nI_nlt (b := s) (a := 9999) hs (by decide)
    have e2 : wtV fm2 pl nn 0 20 a s = nI s := rfl
    rw [f_M_waterFor_L10, vu_self, h11, if_pos hp.end, m_bk, Option.bind_some, if_neg (by decide), if_neg h9, e2]
    unfold orMW
    rw [if_pos (nI_pos' (by omega))]
  | succ m ih =>
    intro n j s b a N hj hn hb hN hf h11 h72 hs hs2 hg
    obtain ⟨n, rfl⟩ : ∃ n', n = n' + 1 := ⟨n - 1, by omega⟩
    have h9 : ¬ (9999 : Int32) < nI s := nI_nlt (b := s) (a := 9999) hs (by decide)
    rw [f_M_waterFor_L10, vu_self, h11, wtV_s]
    by_cases hq : nn ≤ nI j
    · refine ⟨trM S b, ?_, trM_q⟩
      rw [if_pos hq, m_bk, Option.bind_some, if_neg (by decide), if_neg h9, if_pos hq]
      unfold orMW
      rw [if_pos (nI_pos' (by omega))]
    · obtain ⟨hk, hj20⟩ := hp.kind (by omega) hq
      have hx := ixA (k := 72) (n := 92) (j := j) (by omega) (by omega) (by omega) (by omega)
      rw [show nI 72 = (72 : Int32) from rfl] at hx
      have hgu : ag6 (upd b 6 999999) a := hg.w _
      have hbu : Bd (upd b 6 999999) N := hgu.bd hb
      obtain ⟨e1, e2⟩ := m_carT (S := bgM S) hk hbu (by omega)
      have u72' : ∀ i, i < 20 → upd b 6 999999 (72 + i) = pl i := fun i hi => (pk_un (by omega)).trans (h72 i hi)
      have u12 : ∀ i, upd b 6 999999 (12 + i) = fm i := fun i => (pk_un (by omega)).trans (hf i)
      have u11 : upd b 6 999999 11 = nn := (pk_un (by omega)).trans h11
      have u72 := u72' j hj20
      obtain ⟨d, hd2, ed⟩ := drink_n (k := pl j) hb (by omega)
      have ecl : (drinkF a (pl j)).toNatClampNeg = d := by rw [ed, nI_clamp (by omega)]
      have edu : drinkF (upd b 6 999999) (pl j) = nI d := (hgu.drink _).trans ed
      rw [if_neg hq, if_neg (by decide), put_vu, vu_self, bx_uu]
      dsimp only
      rw [if_pos hx.1, hx.2, vu_self, u72, e1, Option.bind_some, if_neg hq, ecl]
      simp only [bI_0]
      by_cases ho : outB a = true
      · have hc' : canB (upd b 6 999999) (pl j) = false := by
          unfold canB
          rw [hgu.out, if_pos ho]
        rw [if_pos hc', hc', if_pos ho]
        obtain ⟨n, rfl⟩ : ∃ n', n = n' + 1 := ⟨n - 1, by omega⟩
        refine ⟨trM S (upd b 6 999999), ?_, trM_q⟩
        rw [f_M_waterFor_L10, vu_self, show upd b 6 999999 11 = nn from h11, if_neg hq, bI_f, if_pos rfl, m_bk, Option.bind_some, if_pos rfl, m_f3]
        rfl
      · have hc : canB (upd b 6 999999) (pl j) = true := by
          unfold canB
          rw [hgu.out, if_neg ho, edu, if_pos]
          exact nI_le (b := 999999) (by omega) (by decide)
        rw [if_neg (by rw [hc]; decide), vu_self, u72, m_drinks (S := va_up (bgM S) 47 (upd b 6 999999)) _ hk (by rw [vu_self]; exact hbu.min (by omega)), Option.bind_some, vu_self]
        dsimp only
        rw [vu_self, u72, e2, Option.bind_some, hc, bI_t, edu, nI_add, ← nI_succ, if_neg ho]
        have efm : (fun i => upd b 6 999999 (12 + i)) = fm := by
          funext i
          exact u12 i
        rw [efm]
        by_cases hw : s + d ≤ 9999
        · rw [if_pos hw]
          exact ih n (j + 1) (s + d) _ _ (N + 1440) (by omega) (by omega) (Bd_car hb (by omega)) (by omega) (fun i => (car_hi (by omega)).trans (u12 i)) ((car_hi (by omega)).trans u11) (fun i hi => (car_hi (by omega)).trans (u72' i hi)) hw (by omega) (hgu.car hf2 _)
        · rw [if_neg hw]
          exact m_wt_over hp m n (j + 1) (s + d) _ (N + 1440) (by omega) (by omega) (Bd_car hbu (by omega)) (by omega) (fun i => (car_hi (by omega)).trans (u12 i)) ((car_hi (by omega)).trans u11) (fun i hi => (car_hi (by omega)).trans (u72' i hi)) (Nat.not_le.mp hw) (by omega)
theorem p_waterFor (hN : N < 1900000000) : Step2 N f_S_waterFor f_M_waterFor := by
  intro S h
  have hag := R_has h.1
  have hb := h.1.1.1
  have ha0 : ag (cp10 (S 4) (S 23)) (S 4) := cp10_ag _ _
  have hba : Bd (upd (cp10 (S 4) (S 23)) 6 9999) N := (Bd_ag ha0.sy hb : Bd (cp10 (S 4) (S 23)) N)
  have hs := s_plan_loop (S := S) (c := 22) (h := 23) (by decide) h.pk 20 200 0 _ N (by omega) (by omega) hba (by omega)
  have hw := wt_pl (fm := S 3) (d0 := S 4 8) h.pk 20 0 (upd (cp10 (S 4) (S 23)) 6 9999) 0 N (by omega) hba (by omega) (by omega) (by rw [upd_app, if_pos rfl]; rfl) (by rw [nI_0, Int32.add_zero]; exact ha0 8 (by decide))
  rw [nI_0] at hs
  have e : f_S_waterFor S = orW (wtV (S 3) (S 7) (S 1 5) 20 0 (upd (cp10 (S 4) (S 23)) 6 9999) 0) (va_up S 23 (plV (S 3) (S 7) (S 1 5) 20 0 (upd (cp10 (S 4) (S 23)) 6 9999)).2) := by
    unfold f_S_waterFor f_C_planDoneBy
    rw [l_become, Option.bind_some]
    dsimp only
    rw [put_vu, vu_self, bx_uu, hs, Option.bind_some]
    dsimp only
    unfold orW
    by_cases hq : S 1 5 ≤ nI (plV (S 3) (S 7) (S 1 5) 20 0 (upd (cp10 (S 4) (S 23)) 6 9999)).1
    · rw [if_pos (show va_up S 23 (plV (S 3) (S 7) (S 1 5) 20 0 (upd (cp10 (S 4) (S 23)) 6 9999)).2 1 5 ≤ nI (plV (S 3) (S 7) (S 1 5) 20 0 (upd (cp10 (S 4) (S 23)) 6 9999)).1 by rw [vu_ne _ _ (by decide)]; exact hq), if_pos (hw.2 hq), ← hw.1, if_pos hq, l_since8, Option.bind_some]
      dsimp only
      rw [vu_self, vu_ne _ _ (by decide)]
    · have hv := hw.1
      rw [if_neg hq] at hv
      rw [if_neg (show ¬ va_up S 23 (plV (S 3) (S 7) (S 1 5) 20 0 (upd (cp10 (S 4) (S 23)) 6 9999)).2 1 5 ≤ nI (plV (S 3) (S 7) (S 1 5) 20 0 (upd (cp10 (S 4) (S 23)) 6 9999)).1 by rw [vu_ne _ _ (by decide)]; exact hq), ← hv, if_neg (by decide), s_f3]
      rfl
  rw [e]
  refine orW_step h Sq.up _ (fun U hU => ?_)
  have u47 := hU 47 (by decide) (by decide)
  have hg6 : ag6 (S 47) (upd (cp10 (S 4) (S 23)) 6 9999) := by
    unfold ag6
    rw [upd_upd]
    exact ((hag.tr ha0.sy).up 6 0).up 8 0
  obtain ⟨W, hw1, hw2⟩ := m_wt_loop (S := U) (fm := fun i => S 47 (12 + i)) (fm2 := S 3) h.pk (fm_ag h.1) 20 200 0 0 (S 47) _ N (by omega) (by omega) hba (by omega) (fun _ => rfl) (R_n h.1) (fun i hi => R_pl h.1 hi) (by omega) (by omega) hg6
  rw [nI_0] at hw1
  refine ⟨W, ?_, hw2⟩
  unfold f_M_waterFor
  rw [m_bg, Option.bind_some, bgM_eq, u47]
  exact hw1
end METH10
