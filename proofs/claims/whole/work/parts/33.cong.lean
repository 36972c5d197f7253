/-! ===== what an effort rests on, and what it keeps ===== -/
def ag (a b : Nat → Int32) : Prop := ∀ i, i < 10 → a i = b i
def agF (a b : Nat → Int32) : Prop := ∀ i, i < 40 → a i = b i
theorem ag.rfl' (a : Nat → Int32) : ag a a := fun _ _ => rfl
theorem ag.sy {a b : Nat → Int32} (h : ag a b) : ag b a := fun i hi => (h i hi).symm
theorem ag.tr {a b c : Nat → Int32} (h : ag a b) (h2 : ag b c) : ag a c := fun i hi => (h i hi).trans (h2 i hi)
theorem ag.up {a b : Nat → Int32} (h : ag a b) (i : Nat) (x : Int32) : ag (upd a i x) (upd b i x) := by
  intro j hj
  simp only [upd_app]
  rw [h j hj]
theorem hour_ag {a b : Nat → Int32} (h : ag a b) : hourF a = hourF b := by unfold hourF; rw [h 7 (by decide)]
theorem heat_ag {a b : Nat → Int32} (h : ag a b) : heatF a = heatF b := by unfold heatF; rw [hour_ag h]
theorem grip_ag {a b : Nat → Int32} (h : ag a b) (x y : Int32) : gripF a x y = gripF b x y := by unfold gripF crustF; rw [hour_ag h]
theorem weight_ag {a b : Nat → Int32} (h : ag a b) : weightF a = weightF b := by unfold weightF; rw [h 1 (by decide), h 2 (by decide)]
theorem out_ag {a b : Nat → Int32} (h : ag a b) : outB a = outB b := by unfold outB; rw [h 0 (by decide)]
theorem min_ag {a b : Nat → Int32} (h : ag a b) (k : Int32) : minF a k = minF b k := by unfold minF waitF; rw [h 7 (by decide)]
theorem drink_ag {a b : Nat → Int32} (h : ag a b) (k : Int32) : drinkF a k = drinkF b k := by unfold drinkF; rw [h 5 (by decide), heat_ag h, min_ag h]
theorem can_ag {a b : Nat → Int32} (h : ag a b) (k : Int32) : canB a k = canB b k := by unfold canB; rw [out_ag h, drink_ag h, h 6 (by decide)]
theorem push_ag {fm fm2 a b : Nat → Int32} (h : ag a b) (hf : agF fm fm2) (step : Int32) (bon : Int32 → Int32) (li : Int32) : (pushV fm a step bon li).1 = (pushV fm2 b step bon li).1 ∧ ag (pushV fm a step bon li).2 (pushV fm2 b step bon li).2 := by
  unfold pushV
  rw [← h 0 (by decide), ← h 1 (by decide), ← h 3 (by decide), ← h 9 (by decide), ← weight_ag h]
  by_cases hy : yardB (a 0) = false
  · rw [if_pos hy, if_pos hy]
    exact ⟨rfl, h⟩
  · rw [if_neg hy, if_neg hy]
    have hy' : yardB (a 0) = true := by simpa using hy
    have hl := inb_lt (yardB_inb hy')
    rw [← hf _ hl, grip_ag h]
    split
    · exact ⟨rfl, ((h.up _ _).up _ _).up _ _⟩
    · exact ⟨rfl, (h.up _ _).up _ _⟩
theorem it_ag {fm fm2 : Nat → Int32} (hf : agF fm fm2) (step : Int32) (bon : Int32 → Int32) (li : Int32) : ∀ (m : Nat) (a b : Nat → Int32), ag a b → ag (itV fm step bon li m a) (itV fm2 step bon li m b) := by
  intro m
  induction m with
  | zero => intro a b h; exact h
  | succ m ih =>
    intro a b h
    obtain ⟨h1, h2⟩ := push_ag h hf step bon li
    unfold itV
    rw [← h1]
    split
    · exact ih _ _ h2
    · exact h2
theorem start_ag {a b : Nat → Int32} (h : ag a b) (k : Int32) : ag (startV a k) (startV b k) := by
  unfold startV
  rw [min_ag h, drink_ag h, h 6 (by decide), h 7 (by decide), h 8 (by decide)]
  exact ((h.up _ _).up _ _).up _ _
theorem mid_ag {a b : Nat → Int32} (h : ag a b) (k : Int32) : ag (midV a k) (midV b k) := by
  unfold midV
  rw [h 1 (by decide), h 2 (by decide), h 3 (by decide), h 5 (by decide)]
  split
  · exact h.up _ _
  · split
    · exact h.up _ _
    · split
      · exact h.up _ _
      · exact h
theorem drive_ag {fm fm2 a b : Nat → Int32} (hf : agF fm fm2) (h : ag a b) (k : Int32) : ag (driveV fm a k) (driveV fm2 b k) := by
  have e1 : brdF a k = brdF b k := by unfold brdF; rw [h 4 (by decide)]
  have e2 : mostF a k = mostF b k := by unfold mostF; rw [e1]
  unfold driveV
  rw [e1, e2, h 0 (by decide)]
  exact it_ag hf _ _ _ _ _ _ h
theorem car_ag {fm fm2 a b : Nat → Int32} (hf : agF fm fm2) (h : ag a b) (k : Int32) : ag (carV fm a k) (carV fm2 b k) := by
  unfold carV
  split
  · exact start_ag h k
  · exact drive_ag hf (mid_ag (start_ag h k) k) k
theorem it_hi {fm : Nat → Int32} (step : Int32) (bon : Int32 → Int32) (li : Int32) (i : Nat) (hi : 10 ≤ i) : ∀ (m : Nat) (a : Nat → Int32), itV fm step bon li m a i = a i := by
  intro m
  induction m with
  | zero => intro a; rfl
  | succ m ih =>
    intro a
    unfold itV
    split
    · rw [ih, push_12 i hi]
    · exact push_12 i hi
theorem car_hi {fm a : Nat → Int32} {k : Int32} {i : Nat} (hi : 10 ≤ i) : carV fm a k i = a i := by
  unfold carV
  split
  · exact start_i _ _ _ (by omega) (by omega) (by omega)
  · unfold driveV
    rw [it_hi _ _ _ _ hi, mid_i _ _ _ (by omega) (by omega) (by omega), start_i _ _ _ (by omega) (by omega) (by omega)]
theorem Bd_ag {a b : Nat → Int32} {N : Int} (h : ag a b) (hb : Bd a N) : Bd b N := by
  unfold Bd at hb ⊢
  rw [← h 0 (by decide), ← h 1 (by decide), ← h 2 (by decide), ← h 3 (by decide), ← h 4 (by decide), ← h 5 (by decide), ← h 7 (by decide)]
  exact hb
theorem Bd_push {fm a : Nat → Int32} {N : Int} {step li : Int32} {bon : Int32 → Int32} (hb : Bd a N) (hs : step = 1 ∨ step = -1) : Bd (pushV fm a step bon li).2 N := by
  obtain ⟨hb0, hb1, hb2, hb3, hb4, hb5, hb7⟩ := hb
  unfold pushV
  by_cases hy : yardB (a 0) = false
  · rw [if_pos hy]
    exact ⟨hb0, hb1, hb2, hb3, hb4, hb5, hb7⟩
  · rw [if_neg hy]
    have hy' := yard_int.mp (show yardB (a 0) = true by simpa using hy)
    split
    · refine ⟨?_, ?_, hb2, hb3, hb4, hb5, hb7⟩
      · show -1 ≤ (a 0 + step).toInt ∧ (a 0 + step).toInt ≤ 40
        have es : step.toInt = 1 ∨ step.toInt = -1 := by
          rcases hs with rfl | rfl
          · exact Or.inl rfl
          · exact Or.inr rfl
        rw [i_add (by omega) (by omega)]
        omega
      · show 0 ≤ (0 : Int32).toInt ∧ (0 : Int32).toInt ≤ 99
        decide
    · refine ⟨hb0, ?_, hb2, hb3, hb4, hb5, hb7⟩
      show 0 ≤ (if a 1 + 4 < 99 then a 1 + 4 else 99 : Int32).toInt ∧ (if a 1 + 4 < 99 then a 1 + 4 else 99 : Int32).toInt ≤ 99
      have ea : (a 1 + 4).toInt = (a 1).toInt + 4 := i_add (by rw [show (4 : Int32).toInt = 4 from rfl]; omega) (by rw [show (4 : Int32).toInt = 4 from rfl]; omega)
      split
      · rename_i q
        rw [i_lt, ea, show (99 : Int32).toInt = 99 from rfl] at q
        rw [ea]
        omega
      · decide
theorem Bd_it {fm : Nat → Int32} {N : Int} {step li : Int32} {bon : Int32 → Int32} (hs : step = 1 ∨ step = -1) : ∀ (m : Nat) (a : Nat → Int32), Bd a N → Bd (itV fm step bon li m a) N := by
  intro m
  induction m with
  | zero => intro a h; exact h
  | succ m ih =>
    intro a h
    unfold itV
    split
    · exact ih _ (Bd_push h hs)
    · exact Bd_push h hs
theorem min_bd {a : Nat → Int32} {k : Int32} (hm : MinOK a) : 0 ≤ (minF a k).toInt ∧ (minF a k).toInt ≤ 1440 := by
  unfold minF
  repeat' split
  all_goals first | decide | skip
  unfold waitF
  obtain ⟨j, hj, e⟩ : ∃ j : Nat, j < 2000000000 ∧ a 7 = nI j := by
    obtain ⟨j, hj, e⟩ := nI_of (x := a 7) (by rw [i_lt, show (0 : Int32).toInt = 0 from rfl]; have := hm.1; omega)
    refine ⟨j, ?_, e⟩
    have h1 := hm.2
    rw [e, nI_toInt hj] at h1
    omega
  rw [e]
  have e600 : (600 : Int32) + nI j = nI (600 + j) := nI_add 600 j
  have er2 : nI (600 + j) - nI (600 + j) / 1440 * 1440 = nI ((600 + j) % 1440) := pk_rem (d := 1440) (by omega) (by omega) (by omega)
  have l2 : (600 + j) % 1440 < 1440 := Nat.mod_lt _ (by omega)
  have es2 : (1440 : Int32) - nI ((600 + j) % 1440) = nI (1440 - (600 + j) % 1440) := pk_sub (a := 1440) (by omega)
  rw [e600, er2, es2, nI_toInt (by omega)]
  omega
theorem Bd_start {a : Nat → Int32} {N : Int} {k : Int32} (hb : Bd a N) (hN : N < 1999000000) : Bd (startV a k) (N + 1440) := by
  have hm := min_bd (k := k) (hb.min (by omega))
  obtain ⟨hb0, hb1, hb2, hb3, hb4, hb5, hb7⟩ := hb
  refine ⟨hb0, hb1, hb2, hb3, hb4, hb5, ?_⟩
  show 0 ≤ (a 7 + minF a k).toInt ∧ (a 7 + minF a k).toInt ≤ N + 1440
  rw [i_add (by omega) (by omega)]
  omega
theorem Bd_mid {a : Nat → Int32} {N : Int} {k : Int32} (hb : Bd a N) : Bd (midV a k) N := by
  obtain ⟨hb0, hb1, hb2, hb3, hb4, hb5, hb7⟩ := id hb
  unfold midV
  split
  · refine ⟨hb0, ?_, hb2, hb3, hb4, hb5, hb7⟩
    show 0 ≤ (if 0 < a 1 - 10 * a 5 then a 1 - 10 * a 5 else 0 : Int32).toInt ∧ (if 0 < a 1 - 10 * a 5 then a 1 - 10 * a 5 else 0 : Int32).toInt ≤ 99
    have em : (10 * a 5).toInt = 10 * (a 5).toInt := i_mul (a := 10) (by rw [show (10 : Int32).toInt = 10 from rfl]; omega) (by rw [show (10 : Int32).toInt = 10 from rfl]; omega)
    have es : (a 1 - 10 * a 5).toInt = (a 1).toInt - 10 * (a 5).toInt := by rw [i_sub (by omega) (by omega), em]
    split
    · rename_i q
      rw [i_lt, es, show (0 : Int32).toInt = 0 from rfl] at q
      rw [es]
      omega
    · decide
  · split
    · refine ⟨hb0, hb1, ?_, hb3, hb4, hb5, hb7⟩
      show 0 ≤ (if 0 < a 2 - 10 then a 2 - 10 else 0 : Int32).toInt ∧ (if 0 < a 2 - 10 then a 2 - 10 else 0 : Int32).toInt ≤ 99
      have ea : (a 2 - 10).toInt = (a 2).toInt - 10 := i_sub (by rw [show (10 : Int32).toInt = 10 from rfl]; omega) (by rw [show (10 : Int32).toInt = 10 from rfl]; omega)
      split
      · rename_i q
        rw [i_lt, ea, show (0 : Int32).toInt = 0 from rfl] at q
        rw [ea]
        omega
      · decide
    · split
      · refine ⟨hb0, hb1, hb2, ?_, hb4, hb5, hb7⟩
        show 0 ≤ (if a 3 + 3 < 9 then a 3 + 3 else 9 : Int32).toInt ∧ (if a 3 + 3 < 9 then a 3 + 3 else 9 : Int32).toInt ≤ 9
        have ea : (a 3 + 3).toInt = (a 3).toInt + 3 := i_add (by rw [show (3 : Int32).toInt = 3 from rfl]; omega) (by rw [show (3 : Int32).toInt = 3 from rfl]; omega)
        split
        · rename_i q
          rw [i_lt, ea, show (9 : Int32).toInt = 9 from rfl] at q
          rw [ea]
          omega
        · decide
      · exact hb
theorem Bd_car {fm a : Nat → Int32} {N : Int} {k : Int32} (hb : Bd a N) (hN : N < 1999000000) : Bd (carV fm a k) (N + 1440) := by
  unfold carV
  split
  · exact Bd_start hb hN
  · unfold driveV
    apply Bd_it
    · split
      · exact Or.inr rfl
      · exact Or.inl rfl
    · exact Bd_mid (Bd_start hb hN)
theorem Bd_le {a : Nat → Int32} {N N2 : Int} (hb : Bd a N) (h : N ≤ N2) : Bd a N2 := by
  obtain ⟨hb0, hb1, hb2, hb3, hb4, hb5, hb7⟩ := hb
  exact ⟨hb0, hb1, hb2, hb3, hb4, hb5, hb7.1, by omega⟩
