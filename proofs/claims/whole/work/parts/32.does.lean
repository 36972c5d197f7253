theorem itV_bon {fm : Nat → Int32} {step li : Int32} {b1 b2 : Int32 → Int32} (P : Int32 → Prop) (hP : ∀ y, P y → yardB y = true → P (y + step)) (hb : ∀ y, P y → yardB y = true → b1 y = b2 y) : ∀ (m : Nat) (a : Nat → Int32), P (a 0) → itV fm step b1 li m a = itV fm step b2 li m a := by
  intro m
  induction m with
  | zero => intro a _; rfl
  | succ m ih =>
    intro a ha
    have e : pushV fm a step b1 li = pushV fm a step b2 li := by
      unfold pushV
      by_cases hy : yardB (a 0) = false
      · rw [if_pos hy, if_pos hy]
      · rw [if_neg hy, if_neg hy, hb (a 0) ha (by simpa using hy)]
    unfold itV
    rw [e]
    by_cases hp : (pushV fm a step b2 li).1 = true
    · rw [if_pos hp, if_pos hp]
      apply ih
      have h2 : (pushV fm a step b2 li).2 0 = a 0 + step ∧ yardB (a 0) = true := by
        unfold pushV at hp ⊢
        by_cases hy : yardB (a 0) = false
        · rw [if_pos hy] at hp; cases hp
        · rw [if_neg hy] at hp ⊢
          refine ⟨?_, by simpa using hy⟩
          split at hp
          · rename_i q; rw [if_pos q]; rfl
          · cases hp
      rw [h2.1]
      exact hP _ ha h2.2
    · rw [if_neg hp, if_neg hp]
def Bd (a : Nat → Int32) (N : Int) : Prop := (-1 ≤ (a 0).toInt ∧ (a 0).toInt ≤ 40) ∧ (0 ≤ (a 1).toInt ∧ (a 1).toInt ≤ 99) ∧ (0 ≤ (a 2).toInt ∧ (a 2).toInt ≤ 99) ∧ (0 ≤ (a 3).toInt ∧ (a 3).toInt ≤ 9) ∧ (0 ≤ (a 4).toInt ∧ (a 4).toInt ≤ 8) ∧ (1 ≤ (a 5).toInt ∧ (a 5).toInt ≤ 8) ∧ (0 ≤ (a 7).toInt ∧ (a 7).toInt ≤ N)
theorem Bd.min {a : Nat → Int32} {N : Int} (h : Bd a N) (hN : N < 2000000000) : MinOK a := ⟨h.2.2.2.2.2.2.1, by have := h.2.2.2.2.2.2.2; omega⟩
theorem Bd.b0 {a : Nat → Int32} {N : Int} (h : Bd a N) : 0 ≤ a 4 := by rw [i_le]; exact h.2.2.2.2.1.1
theorem Bd.b1 {a : Nat → Int32} {N : Int} (h : Bd a N) : a 4 ≤ 8 := by rw [i_le]; exact h.2.2.2.2.1.2
theorem yard_int {y : Int32} : yardB y = true ↔ (0 ≤ y.toInt ∧ y.toInt < 40) := by
  rw [yardB_iff, i_lt, i_le]
  rw [show (0 : Int32).toInt = 0 from rfl, show (40 : Int32).toInt = 40 from rfl]
  omega
theorem bon0 {y : Int32} (hy : yardB y = true) : bonM 0 0 y = 0 := by
  have h := yard_int.mp hy
  unfold bonM
  rw [if_neg (by rw [i_lt]; show ¬ _ < (0 : Int32).toInt; rw [show (0 : Int32).toInt = 0 from rfl]; omega), if_pos]
  rw [show (0 : Int32) + 0 = 0 from rfl, i_le]
  exact h.1
theorem bonC0 {y : Int32} (hy : yardB y = true) : (if (0 : Int32) ≤ y then (0 : Int32) else 30) = 0 := by
  rw [if_pos]
  rw [i_le]
  exact (yard_int.mp hy).1
theorem drive_0 (fm b : Nat → Int32) (k : Int32) (hk : underB k 2 = false) : driveV fm b k = itV fm (if k = 6 then (-1) else 1) (bonM 0 0) (if k = 5 then 15 else 0) 3 b := by
  unfold driveV mostF
  have e : brdF b k = 0 := by unfold brdF; rw [if_pos hk]
  rw [e]
  have e2 : (if (3 : Int32) < 0 + 1 then (0 : Int32) + 1 else 3).toNatClampNeg = 3 := by decide
  rw [e2]
  apply itV_bon (fun _ => True)
  · intros; trivial
  · intro y _ hy
    rw [bon0 hy, if_pos (show (0 : Int32) ≤ 0 by decide)]
    exact bonC0 hy
  · trivial
theorem drive_B (fm b : Nat → Int32) (k : Int32) (hk : underB k 2 = true) (h6 : k ≠ 6) (h0 : 0 ≤ (b 4).toInt) (h1 : (b 4).toInt ≤ 8) (hy0 : -1 ≤ (b 0).toInt ∧ (b 0).toInt ≤ 40) : driveV fm b k = itV fm 1 (bonM (b 0) (b 4)) (if k = 5 then 15 else 0) (if b 4 ≤ 2 then 3 else b 4 + 1).toNatClampNeg b := by
  unfold driveV mostF
  have e : brdF b k = b 4 := by unfold brdF; rw [if_neg (by rw [hk]; decide)]
  rw [e, if_neg h6]
  have e2 : (if 3 < b 4 + 1 then b 4 + 1 else 3) = (if b 4 ≤ 2 then 3 else b 4 + 1) := by
    have ea : (b 4 + 1).toInt = (b 4).toInt + 1 := i_add (by rw [show (1 : Int32).toInt = 1 from rfl]; omega) (by rw [show (1 : Int32).toInt = 1 from rfl]; omega)
    by_cases q : b 4 ≤ 2
    · rw [if_pos q, if_neg]
      rw [i_lt, ea]
      rw [i_le] at q
      rw [show (2 : Int32).toInt = 2 from rfl] at q
      rw [show (3 : Int32).toInt = 3 from rfl]
      omega
    · rw [if_neg q, if_pos]
      rw [i_lt, ea]
      rw [i_le] at q
      rw [show (2 : Int32).toInt = 2 from rfl] at q
      rw [show (3 : Int32).toInt = 3 from rfl]
      omega
  rw [e2]
  apply itV_bon (fun y => (b 0).toInt ≤ y.toInt)
  · intro y hy hyd
    have := yard_int.mp hyd
    have ea : (y + 1).toInt = y.toInt + 1 := i_add (by rw [show (1 : Int32).toInt = 1 from rfl]; omega) (by rw [show (1 : Int32).toInt = 1 from rfl]; omega)
    rw [ea]
    omega
  · intro y hy hyd
    have hyy := yard_int.mp hyd
    have ea : (b 0 + b 4).toInt = (b 0).toInt + (b 4).toInt := i_add (by omega) (by omega)
    unfold bonM
    have hnl : ¬ y < b 0 := by rw [i_lt]; omega
    rw [if_neg hnl]
    by_cases q : b 4 ≤ 0
    · rw [if_pos q]
      rw [i_le] at q
      rw [show (0 : Int32).toInt = 0 from rfl] at q
      rw [if_pos (by rw [i_le]; rw [show (0 : Int32).toInt = 0 from rfl]; omega), if_pos (by rw [i_le, ea]; omega)]
    · rw [if_neg q]
  · exact Int.le_refl _
theorem m_pushes {S : St} {fm : Nat → Int32} (way fr br li : Int32) (mm : Nat) (hm : mm < 100) (a : Nat → Int32) (hf : ∀ i, a (12 + i) = fm i) : f_M_pushes (nI mm) way fr br li (va_up S 47 a) = some (va_up S 47 (itV fm way (bonM fr br) li mm a)) := by
  unfold f_M_pushes
  have := m_pushes_loop (S := S) (fm := fm) way fr br li mm hm mm 200 0 a (by omega) (by omega) hf
  rw [nI_0] at this
  exact this
theorem mid_i (a : Nat → Int32) (k : Int32) (i : Nat) (h1 : i ≠ 1) (h2 : i ≠ 2) (h3 : i ≠ 3) : midV a k i = a i := by
  unfold midV
  split
  · simp [upd_app, h1]
  · split
    · simp [upd_app, h2]
    · split
      · simp [upd_app, h3]
      · rfl
theorem start_i (a : Nat → Int32) (k : Int32) (i : Nat) (h6 : i ≠ 6) (h7 : i ≠ 7) (h8 : i ≠ 8) : startV a k i = a i := by
  simp [startV, upd_app, h6, h7, h8]
theorem m_does {S : St} {N : Int} (k : Int32) (hk : 0 ≤ k ∧ k < 8) (hb : Bd (S 47) N) (hN : N < 1999000000) : f_M_does k S = some (va_up S 47 (carV (fun i => S 47 (12 + i)) (S 47) k)) := by
  have hm := hb.min (by omega)
  unfold f_M_does
  rw [m_drinks k hk hm]
  simp only [Option.bind_some, put_vu, vu_self, bx_uu]
  have hm2 : MinOK ((va_up S 47 (upd (upd (S 47) 6 (S 47 6 - drinkF (S 47) k)) 8 (upd (S 47) 6 (S 47 6 - drinkF (S 47) k) 8 + drinkF (S 47) k))) 47) := by
    rw [vu_self]; exact hm
  rw [m_minutesOf k hm2]
  simp only [Option.bind_some, vu_self, bx_uu]
  have est : upd (upd (upd (S 47) 6 (S 47 6 - drinkF (S 47) k)) 8 (upd (S 47) 6 (S 47 6 - drinkF (S 47) k) 8 + drinkF (S 47) k)) 7 (upd (upd (S 47) 6 (S 47 6 - drinkF (S 47) k)) 8 (upd (S 47) 6 (S 47 6 - drinkF (S 47) k) 8 + drinkF (S 47) k) 7 + minF (upd (upd (S 47) 6 (S 47 6 - drinkF (S 47) k)) 8 (upd (S 47) 6 (S 47 6 - drinkF (S 47) k) 8 + drinkF (S 47) k)) k) = startV (S 47) k := by
    have e1 : minF (upd (upd (S 47) 6 (S 47 6 - drinkF (S 47) k)) 8 (upd (S 47) 6 (S 47 6 - drinkF (S 47) k) 8 + drinkF (S 47) k)) k = minF (S 47) k := rfl
    have e2 : upd (upd (S 47) 6 (S 47 6 - drinkF (S 47) k)) 8 (upd (S 47) 6 (S 47 6 - drinkF (S 47) k) 8 + drinkF (S 47) k) 7 = S 47 7 := rfl
    have e3 : upd (S 47) 6 (S 47 6 - drinkF (S 47) k) 8 = S 47 8 := rfl
    rw [e1, e2, e3]
    unfold startV
    rw [upd_comm (i := 8) (j := 7) (by decide), upd_comm (i := 6) (j := 7) (by decide)]
  rw [est]
  have s4 : startV (S 47) k 4 = S 47 4 := start_i _ _ _ (by decide) (by decide) (by decide)
  have s0 : startV (S 47) k 0 = S 47 0 := start_i _ _ _ (by decide) (by decide) (by decide)
  have s1 : startV (S 47) k 1 = S 47 1 := start_i _ _ _ (by decide) (by decide) (by decide)
  have s2 : startV (S 47) k 2 = S 47 2 := start_i _ _ _ (by decide) (by decide) (by decide)
  have s3 : startV (S 47) k 3 = S 47 3 := start_i _ _ _ (by decide) (by decide) (by decide)
  have s12 : ∀ i, startV (S 47) k (12 + i) = S 47 (12 + i) := fun i => start_i _ _ _ (by omega) (by omega) (by omega)
  have hdig : ∀ a, f_M_digs (va_up S 47 a) = some (va_up S 47 (upd a 1 (if 0 < a 1 - 10 * a 5 then a 1 - 10 * a 5 else 0))) := by
    intro a
    unfold f_M_digs
    simp only [put_vu, vu_self, bx_uu]
    congr 3
    by_cases q : 0 < a 1 - 10 * a 5
    · rw [if_pos q, if_pos (by rw [i_le]; rw [i_lt] at q; omega)]
    · rw [if_neg q]
      by_cases q2 : 0 ≤ a 1 - 10 * a 5
      · rw [if_pos q2, i_eq]
        rw [i_lt] at q
        rw [i_le] at q2
        omega
      · rw [if_neg q2]
  have p3 : ∀ (way li : Int32) (a : Nat → Int32), (∀ i, a (12 + i) = S 47 (12 + i)) → f_M_pushes 3 way 0 0 li (va_up S 47 a) = some (va_up S 47 (itV (fun i => S 47 (12 + i)) way (bonM 0 0) li 3 a)) := fun way li a ha => m_pushes (fm := fun i => S 47 (12 + i)) way 0 0 li 3 (by omega) a ha
  obtain ⟨hb0, hb1, hb2, hb3, hb4, hb5, hb7⟩ := id hb
  have pB : ∀ (li : Int32) (b : Nat → Int32), (∀ i, b (12 + i) = S 47 (12 + i)) → f_M_pushes (if S 47 4 ≤ 2 then 3 else S 47 4 + 1) 1 (S 47 0) (S 47 4) li (va_up S 47 b) = some (va_up S 47 (itV (fun i => S 47 (12 + i)) 1 (bonM (S 47 0) (S 47 4)) li (if S 47 4 ≤ 2 then 3 else S 47 4 + 1).toNatClampNeg b)) := by
    intro li b hbb
    obtain ⟨j, hj, e⟩ : ∃ j : Nat, j ≤ 9 ∧ (if S 47 4 ≤ 2 then (3 : Int32) else S 47 4 + 1) = nI j := by
      obtain ⟨j, hj, e⟩ := nI_of2 (M := 8) (n := 8) (by decide) (Int32.not_lt.mpr hb.b0) hb.b1
      rw [e, ← nI_succ]
      split
      · exact ⟨3, by omega, by decide⟩
      · exact ⟨j + 1, by omega, rfl⟩
    rw [e, nI_clamp (by omega)]
    exact m_pushes (fm := fun i => S 47 (12 + i)) 1 _ _ li j (by omega) b hbb
  rcases kind_cases hk.1 hk.2 with rfl | rfl | rfl | rfl | rfl | rfl | rfl | rfl
  · simp (decide := true) only [if_true, if_false]
    rw [p3 1 0 _ s12]
    simp only [Option.bind_some]
    rw [show carV (fun i => S 47 (12 + i)) (S 47) 0 = driveV (fun i => S 47 (12 + i)) (startV (S 47) 0) 0 from rfl, drive_0 _ _ _ rfl]
    rfl
  · simp (decide := true) only [if_true, if_false, hdig, Option.bind_some]
    rw [p3 1 0 _ (fun i => by rw [upd_app, if_neg (by omega)]; exact s12 i)]
    simp only [Option.bind_some]
    rw [show carV (fun i => S 47 (12 + i)) (S 47) 1 = driveV (fun i => S 47 (12 + i)) (upd (startV (S 47) 1) 1 (if 0 < startV (S 47) 1 1 - 10 * startV (S 47) 1 5 then startV (S 47) 1 1 - 10 * startV (S 47) 1 5 else 0)) 1 from rfl, drive_0 _ _ _ rfl]
    rfl
  · simp (decide := true) only [if_true, if_false, hdig, Option.bind_some]
    simp only [s4, s0]
    rw [pB 0 _ (fun i => by rw [upd_app, if_neg (by omega)]; exact s12 i)]
    simp only [Option.bind_some]
    rw [show carV (fun i => S 47 (12 + i)) (S 47) 2 = driveV (fun i => S 47 (12 + i)) (upd (startV (S 47) 2) 1 (if 0 < startV (S 47) 2 1 - 10 * startV (S 47) 2 5 then startV (S 47) 2 1 - 10 * startV (S 47) 2 5 else 0)) 2 from rfl, drive_B _ _ _ rfl (by decide) (by show 0 ≤ (startV (S 47) 2 4).toInt; rw [s4]; omega) (by show (startV (S 47) 2 4).toInt ≤ 8; rw [s4]; omega) (by show -1 ≤ (startV (S 47) 2 0).toInt ∧ (startV (S 47) 2 0).toInt ≤ 40; rw [s0]; omega)]
    rfl
  · simp (decide := true) only [if_true, if_false]
    have es : (if 10 ≤ startV (S 47) 3 2 then startV (S 47) 3 2 - 10 else 0) = (if 0 < startV (S 47) 3 2 - 10 then startV (S 47) 3 2 - 10 else 0) := by
      rw [s2]
      have ea : (S 47 2 - 10).toInt = (S 47 2).toInt - 10 := i_sub (by rw [show (10 : Int32).toInt = 10 from rfl]; omega) (by rw [show (10 : Int32).toInt = 10 from rfl]; omega)
      by_cases q : 0 < S 47 2 - 10
      · rw [if_pos q, if_pos]
        rw [i_lt, ea] at q
        rw [i_le]
        rw [show (0 : Int32).toInt = 0 from rfl] at q
        rw [show (10 : Int32).toInt = 10 from rfl]
        omega
      · rw [if_neg q]
        by_cases q2 : 10 ≤ S 47 2
        · rw [if_pos q2, i_eq, ea]
          rw [i_lt, ea] at q
          rw [i_le] at q2
          rw [show (0 : Int32).toInt = 0 from rfl] at q
          rw [show (10 : Int32).toInt = 10 from rfl] at q2
          rw [show (0 : Int32).toInt = 0 from rfl]
          omega
        · rw [if_neg q2]
    rw [es, p3 1 0 _ (fun i => by rw [upd_app, if_neg (by omega)]; exact s12 i)]
    simp only [Option.bind_some]
    rw [show carV (fun i => S 47 (12 + i)) (S 47) 3 = driveV (fun i => S 47 (12 + i)) (upd (startV (S 47) 3) 2 (if 0 < startV (S 47) 3 2 - 10 then startV (S 47) 3 2 - 10 else 0)) 3 from rfl, drive_0 _ _ _ rfl]
    rfl
  · simp (decide := true) only [if_true, if_false]
    have es : (if startV (S 47) 4 3 ≤ 6 then startV (S 47) 4 3 + 3 else 9) = (if startV (S 47) 4 3 + 3 < 9 then startV (S 47) 4 3 + 3 else 9) := by
      rw [s3]
      have ea : (S 47 3 + 3).toInt = (S 47 3).toInt + 3 := i_add (by rw [show (3 : Int32).toInt = 3 from rfl]; omega) (by rw [show (3 : Int32).toInt = 3 from rfl]; omega)
      by_cases q : S 47 3 + 3 < 9
      · rw [if_pos q, if_pos]
        rw [i_lt, ea] at q
        rw [i_le]
        rw [show (9 : Int32).toInt = 9 from rfl] at q
        rw [show (6 : Int32).toInt = 6 from rfl]
        omega
      · rw [if_neg q]
        by_cases q2 : S 47 3 ≤ 6
        · rw [if_pos q2, i_eq, ea]
          rw [i_lt, ea] at q
          rw [i_le] at q2
          rw [show (9 : Int32).toInt = 9 from rfl] at q
          rw [show (6 : Int32).toInt = 6 from rfl] at q2
          rw [show (9 : Int32).toInt = 9 from rfl]
          omega
        · rw [if_neg q2]
    rw [es, p3 1 0 _ (fun i => by rw [upd_app, if_neg (by omega)]; exact s12 i)]
    simp only [Option.bind_some]
    rw [show carV (fun i => S 47 (12 + i)) (S 47) 4 = driveV (fun i => S 47 (12 + i)) (upd (startV (S 47) 4) 3 (if startV (S 47) 4 3 + 3 < 9 then startV (S 47) 4 3 + 3 else 9)) 4 from rfl, drive_0 _ _ _ rfl]
    rfl
  · simp (decide := true) only [if_true, if_false, hdig, Option.bind_some]
    simp only [s4, s0]
    rw [pB 15 _ (fun i => by rw [upd_app, if_neg (by omega)]; exact s12 i)]
    simp only [Option.bind_some]
    rw [show carV (fun i => S 47 (12 + i)) (S 47) 5 = driveV (fun i => S 47 (12 + i)) (upd (startV (S 47) 5) 1 (if 0 < startV (S 47) 5 1 - 10 * startV (S 47) 5 5 then startV (S 47) 5 1 - 10 * startV (S 47) 5 5 else 0)) 5 from rfl, drive_B _ _ _ rfl (by decide) (by show 0 ≤ (startV (S 47) 5 4).toInt; rw [s4]; omega) (by show (startV (S 47) 5 4).toInt ≤ 8; rw [s4]; omega) (by show -1 ≤ (startV (S 47) 5 0).toInt ∧ (startV (S 47) 5 0).toInt ≤ 40; rw [s0]; omega)]
    rfl
  · simp (decide := true) only [if_true, if_false]
    rw [p3 (-1) 0 _ s12]
    simp only [Option.bind_some]
    rw [show carV (fun i => S 47 (12 + i)) (S 47) 6 = driveV (fun i => S 47 (12 + i)) (startV (S 47) 6) 6 from rfl, drive_0 _ _ _ rfl]
    rfl
  · simp (decide := true) only [if_true, if_false]
    rfl
