/-! ===== the model's side of the core ===== -/
theorem i_lt (a b : Int32) : a < b ↔ a.toInt < b.toInt := Int32.lt_iff_toInt_lt
theorem i_le (a b : Int32) : a ≤ b ↔ a.toInt ≤ b.toInt := Int32.le_iff_toInt_le
theorem i_eq (a b : Int32) : a = b ↔ a.toInt = b.toInt := Int32.toInt_inj.symm
theorem i_rng (a : Int32) : -2147483648 ≤ a.toInt ∧ a.toInt < 2147483648 := ⟨Int32.le_toInt a, Int32.toInt_lt a⟩
theorem bm_id {x : Int} (h0 : -2147483648 ≤ x) (h1 : x < 2147483648) : x.bmod (2 ^ 32) = x := by
  apply Int.bmod_eq_of_le
  · have : ((2 ^ 32 : Nat) : Int) = 4294967296 := by decide
    omega
  · have : ((2 ^ 32 : Nat) : Int) = 4294967296 := by decide
    omega
theorem i_add {a b : Int32} (h0 : -2147483648 ≤ a.toInt + b.toInt) (h1 : a.toInt + b.toInt < 2147483648) : (a + b).toInt = a.toInt + b.toInt := by
  rw [Int32.toInt_add]; exact bm_id h0 h1
theorem i_sub {a b : Int32} (h0 : -2147483648 ≤ a.toInt - b.toInt) (h1 : a.toInt - b.toInt < 2147483648) : (a - b).toInt = a.toInt - b.toInt := by
  rw [Int32.toInt_sub]; exact bm_id h0 h1
theorem i_mul {a b : Int32} (h0 : -2147483648 ≤ a.toInt * b.toInt) (h1 : a.toInt * b.toInt < 2147483648) : (a * b).toInt = a.toInt * b.toInt := by
  rw [Int32.toInt_mul]; exact bm_id h0 h1
def inB (v lo hi : Int32) : Bool := if v < lo then false else if hi < v then false else true
theorem m_in {S : St} (v lo hi : Int32) : f_M_in v lo hi S = some (inB v lo hi, S) := rfl
theorem inB_iff {v lo hi : Int32} : inB v lo hi = true ↔ (¬ v < lo ∧ ¬ hi < v) := by
  unfold inB
  by_cases h1 : v < lo
  · simp [h1]
  · by_cases h2 : hi < v <;> simp [h1, h2]
theorem inB_yard (y : Int32) : inB y 0 39 = yardB y := by
  rw [Bool.eq_iff_iff, inB_iff, yardB_iff]
  have e1 := i_lt 39 y
  have e2 := i_le 40 y
  rw [e1, e2]
  rw [show (39 : Int32).toInt = 39 from rfl, show (40 : Int32).toInt = 40 from rfl]
  constructor
  · rintro ⟨a, b⟩; exact ⟨a, by omega⟩
  · rintro ⟨a, b⟩; exact ⟨a, by omega⟩
theorem yard_n {y : Int32} (h : yardB y = true) : ∃ j : Nat, j < 40 ∧ y = nI j := by
  have := inb_in (yardB_inb h)
  exact vp_in_of this (by decide)
theorem m_isYard {S : St} (y : Int32) : f_M_isYard y S = some (yardB y, S) := by
  unfold f_M_isYard
  rw [m_in, inB_yard]
  rfl
theorem m_hour {S : St} : f_M_hour S = some (hourF (S 47), S) := rfl
theorem m_gripOf {S : St} (x y : Int32) : f_M_gripOf x y S = some (gripF (S 47) x y, S) := by
  unfold f_M_gripOf gripF crustF
  rw [m_hour]
  simp only [Option.bind_some, m_in, bI_0, inB]
  by_cases h1 : hourF (S 47) < 4
  · simp [h1]
  · by_cases h2 : 7 < hourF (S 47) <;> simp [h1, h2]
theorem m_heat {S : St} : f_M_heat S = some (heatF (S 47), S) := by
  unfold f_M_heat heatF
  rw [m_hour]
  simp only [Option.bind_some, m_in, bI_0, inB]
  by_cases h1 : hourF (S 47) < 10
  · simp [h1]
  · by_cases h2 : 16 < hourF (S 47) <;> simp [h1, h2]
theorem ix12 {j k : Nat} (hj : j < 1000) (hk : k < 1000) : (nI k + nI j).toNatClampNeg = k + j := by
  rw [nI_add, nI_clamp (by omega)]
theorem inb_n {j n : Nat} (h : j < n) (hn : n < 1000000) : inb (nI j) n = true := by
  unfold inb
  exact decide_eq_true (vp_in_nI h (by omega))
theorem m_grip {S : St} {y : Int32} (hy : yardB y = true) : f_M_grip y S = some (gripF (S 47) (S 47 (12 + y.toNatClampNeg)) (S 47 3), S) := by
  obtain ⟨j, hj, rfl⟩ := yard_n hy
  unfold f_M_grip
  have e1 : inb (12 + nI j) 92 = true := by
    rw [show (12 : Int32) = nI 12 from rfl, nI_add]
    exact inb_n (by omega) (by omega)
  have e2 : (12 + nI j).toNatClampNeg = 12 + (nI j).toNatClampNeg := by
    rw [show (12 : Int32) = nI 12 from rfl, ix12 (by omega) (by omega), nI_clamp (by omega)]
  rw [e1, e2]
  simp only [if_true, m_gripOf, Option.bind_some]
theorem m_weight {S : St} : f_M_weight S = some (weightF (S 47), S) := rfl
theorem m_isOut {S : St} : f_M_isOut S = some (outB (S 47), S) := by
  unfold f_M_isOut outB
  rw [m_isYard]
  simp only [Option.bind_some]
  cases yardB (S 47 0) <;> rfl
theorem m_workOf {S : St} (k : Int32) (hk : 0 ≤ k ∧ k < 8) : f_M_workOf k S = some (workF k, S) := by
  rcases kind_cases hk.1 hk.2 with rfl | rfl | rfl | rfl | rfl | rfl | rfl | rfl <;> rfl
/-- the minute is as it may be -/
def MinOK (a : Nat → Int32) : Prop := 0 ≤ (a 7).toInt ∧ (a 7).toInt < 2000000000
theorem wait_eq {x : Int32} (h0 : 0 ≤ x.toInt) (h1 : x.toInt < 2000000000) : (if ((1680 - ((840 + x) - (840 + x) / 1440 * 1440)) - (1680 - ((840 + x) - (840 + x) / 1440 * 1440)) / 1440 * 1440) = 0 then 1440 else ((1680 - ((840 + x) - (840 + x) / 1440 * 1440)) - (1680 - ((840 + x) - (840 + x) / 1440 * 1440)) / 1440 * 1440)) = 1440 - ((600 + x) - (600 + x) / 1440 * 1440) := by
  obtain ⟨j, hj, rfl⟩ : ∃ j : Nat, j < 2000000000 ∧ x = nI j := by
    obtain ⟨j, hj, e⟩ := nI_of (x := x) (by rw [i_lt]; show ¬ _ < (0 : Int32).toInt; rw [show (0 : Int32).toInt = 0 from rfl]; omega)
    refine ⟨j, ?_, e⟩
    rw [e, nI_toInt hj] at h1
    omega
  have e840 : (840 : Int32) + nI j = nI (840 + j) := nI_add 840 j
  have e600 : (600 : Int32) + nI j = nI (600 + j) := nI_add 600 j
  have er1 : nI (840 + j) - nI (840 + j) / 1440 * 1440 = nI ((840 + j) % 1440) := pk_rem (d := 1440) (by omega) (by omega) (by omega)
  have er2 : nI (600 + j) - nI (600 + j) / 1440 * 1440 = nI ((600 + j) % 1440) := pk_rem (d := 1440) (by omega) (by omega) (by omega)
  rw [e840, e600, er1, er2]
  have l1 : (840 + j) % 1440 < 1440 := Nat.mod_lt _ (by omega)
  have l2 : (600 + j) % 1440 < 1440 := Nat.mod_lt _ (by omega)
  have es1 : (1680 : Int32) - nI ((840 + j) % 1440) = nI (1680 - (840 + j) % 1440) := pk_sub (a := 1680) (by omega)
  have es2 : (1440 : Int32) - nI ((600 + j) % 1440) = nI (1440 - (600 + j) % 1440) := pk_sub (a := 1440) (by omega)
  rw [es1, es2]
  have er3 : nI (1680 - (840 + j) % 1440) - nI (1680 - (840 + j) % 1440) / 1440 * 1440 = nI ((1680 - (840 + j) % 1440) % 1440) := pk_rem (d := 1440) (by omega) (by omega) (by omega)
  rw [er3]
  split
  · rename_i hz
    have hz' : (1680 - (840 + j) % 1440) % 1440 = 0 := (nI_eq (b := 0) (by omega) (by omega)).mp hz
    show nI 1440 = _
    congr 1
    omega
  · rename_i hz
    have hz' : (1680 - (840 + j) % 1440) % 1440 ≠ 0 := fun e => hz (by rw [e]; rfl)
    congr 1
    omega
theorem m_minutesOf {S : St} (k : Int32) (hm : MinOK (S 47)) : f_M_minutesOf k S = some (minF (S 47) k, S) := by
  unfold f_M_minutesOf minF waitF
  by_cases h1 : k = 1
  · simp [h1]
  by_cases h2 : k = 2
  · simp [h2]
  by_cases h3 : k = 3
  · simp [h3]
  by_cases h4 : k = 4
  · simp [h4]
  by_cases h5 : k = 5
  · simp [h5]
  by_cases h6 : k = 6
  · simp [h6]
  by_cases h7 : k = 7
  · rw [if_neg h1, if_neg h2, if_neg h3, if_neg h4, if_neg h5, if_neg h6, if_pos h7, if_neg h1, if_neg h2, if_neg h3, if_neg h4, if_neg h5, if_neg h6, if_pos h7]
    have e := wait_eq hm.1 hm.2
    show some (_, S) = some (_, S)
    rw [e]
  · simp [h1, h2, h3, h4, h5, h6, h7]
theorem m_drinks {S : St} (k : Int32) (hk : 0 ≤ k ∧ k < 8) (hm : MinOK (S 47)) : f_M_drinks k S = some (drinkF (S 47) k, S) := by
  unfold f_M_drinks drinkF
  rw [m_workOf k hk]
  simp only [Option.bind_some, m_heat, m_minutesOf k hm]
theorem m_canDo {S : St} (k : Int32) (hk : 0 ≤ k ∧ k < 8) (hm : MinOK (S 47)) : f_M_canDo k S = some (canB (S 47) k, S) := by
  unfold f_M_canDo canB
  rw [m_isOut]
  simp only [Option.bind_some, bI_0, m_drinks k hk hm]
  by_cases ho : outB (S 47) = true
  · simp [ho]
  · have ho' : outB (S 47) = false := by simpa using ho
    simp only [ho', if_true, Bool.false_eq_true, if_false]
    by_cases hw : drinkF (S 47) k ≤ S 47 6
    · have : ¬ S 47 6 < drinkF (S 47) k := Int32.not_lt.mpr hw
      simp [hw, this]
    · have : S 47 6 < drinkF (S 47) k := Int32.not_le.mp hw
      simp [hw, this]
theorem upd_comm {a : Nat → Int32} {i j : Nat} {x y : Int32} (h : i ≠ j) : upd (upd a i x) j y = upd (upd a j y) i x := by
  funext q
  simp only [upd_app]
  by_cases h1 : q = i
  · subst h1; simp [h]
  · simp [h1]
theorem upd_same (a : Nat → Int32) (j : Nat) : upd a j (a j) = a := by
  funext q
  simp only [upd_app]
  by_cases h1 : q = j
  · subst h1; simp
  · simp [h1]
theorem upd_upd (a : Nat → Int32) (j : Nat) (x y : Int32) : upd (upd a j x) j y = upd a j y := by
  funext q
  simp only [upd_app]
  by_cases h1 : q = j <;> simp [h1]
def bonM (fr br y : Int32) : Int32 := if y < fr then 0 else if fr + br ≤ y then 0 else 30
theorem push_12 {fm a : Nat → Int32} {step li : Int32} {bon : Int32 → Int32} (i : Nat) (hi : 10 ≤ i) : (pushV fm a step bon li).2 i = a i := by
  unfold pushV
  have h9 : i ≠ 9 := by omega
  have h0 : i ≠ 0 := by omega
  have h1 : i ≠ 1 := by omega
  split
  · rfl
  · split <;> simp [upd_app, h9, h0, h1]
theorem m_pushes_loop {S : St} {fm : Nat → Int32} (way fr br li : Int32) (mm : Nat) (hm : mm < 100) : ∀ (m n j : Nat) (a : Nat → Int32), j + m = mm → m + 2 ≤ n → (∀ i, a (12 + i) = fm i) → f_M_pushes_L6 n (nI mm) way fr br li 1 (nI j) (va_up S 47 a) = some (va_up S 47 (itV fm way (bonM fr br) li m a)) := by
  intro m
  induction m with
  | zero =>
    intro n j a hj hn hf
    obtain ⟨n, rfl⟩ : ∃ n', n = n' + 1 := ⟨n - 1, by omega⟩
    have : j = mm := by omega
    subst this
    unfold f_M_pushes_L6
    rw [if_pos (nI_le (Nat.le_refl _) (by omega))]
    rfl
  | succ m ih =>
    intro n j a hj hn hf
    obtain ⟨n, rfl⟩ : ∃ n', n = n' + 1 := ⟨n - 1, by omega⟩
    unfold f_M_pushes_L6
    rw [if_neg (nI_ge (by omega) (by omega)), if_neg (by decide), m_isOut]
    simp only [Option.bind_some, bI_0, vu_self]
    by_cases hy : yardB (a 0) = false
    · have ho : outB a = true := by simp [outB, hy]
      have hp : pushV fm a way (bonM fr br) li = (false, a) := by unfold pushV; rw [if_pos hy]
      simp [ho, itV, hp]
    · have hy' : yardB (a 0) = true := by simpa using hy
      have ho : outB a = false := by simp [outB, hy']
      have e0 : (true = false) = False := by simp
      simp only [ho, if_true, m_grip (S := va_up S 47 a) (y := a 0) hy', Option.bind_some, vu_self, put_vu, bx_uu, m_weight, weightF_9, hf]
      have hb : (if a 0 < fr then (0 : Int32) else if fr + br ≤ a 0 then 0 else 30) = bonM fr br (a 0) := rfl
      simp only [hb]
      by_cases hw : weightF a - li ≤ gripF a (fm (a 0).toNatClampNeg) (a 3) + bonM fr br (a 0)
      · have hw' : ¬ gripF a (fm (a 0).toNatClampNeg) (a 3) + bonM fr br (a 0) < weightF a - li := Int32.not_lt.mpr hw
        have hp : pushV fm a way (bonM fr br) li = (true, upd (upd (upd a 9 (a 9 + 1)) 0 (a 0 + way)) 1 0) := by
          unfold pushV
          rw [if_neg hy, if_pos hw]
        have h9 : upd a 9 (a 9 + 1) 0 = a 0 := rfl
        simp only [hw', if_false, if_neg (show ¬ (1 : Int32) = 0 by decide), h9]
        rw [← nI_succ, ih n (j + 1) _ (by omega) (by omega) (fun i => by
          rw [← hf i]
          have q1 : 12 + i ≠ 1 := by omega
          have q0 : 12 + i ≠ 0 := by omega
          have q9 : 12 + i ≠ 9 := by omega
          simp [upd_app, q1, q0, q9])]
        simp only [itV, hp, if_true]
      · have hw' : gripF a (fm (a 0).toNatClampNeg) (a 3) + bonM fr br (a 0) < weightF a - li := Int32.not_le.mp hw
        have hp : pushV fm a way (bonM fr br) li = (false, upd (upd a 9 (a 9 + 1)) 1 (if a 1 + 4 < 99 then a 1 + 4 else 99)) := by
          unfold pushV
          rw [if_neg hy, if_neg hw]
        have h9 : upd a 9 (a 9 + 1) 0 = a 0 := rfl
        have hz : a 0 + 0 = a 0 := Int32.add_zero _
        have hu : upd (upd a 9 (a 9 + 1)) 0 (a 0) = upd a 9 (a 9 + 1) := upd_same (upd a 9 (a 9 + 1)) 0
        have h1 : upd a 9 (a 9 + 1) 1 = a 1 := rfl
        have hs : (if a 1 + 4 ≤ 99 then a 1 + 4 else 99) = (if a 1 + 4 < 99 then a 1 + 4 else 99) := by
          by_cases q : a 1 + 4 < 99
          · rw [if_pos q, if_pos (by rw [i_le]; rw [i_lt] at q; omega)]
          · rw [if_neg q]
            by_cases q2 : a 1 + 4 ≤ 99
            · rw [if_pos q2, i_eq]
              rw [i_lt] at q
              rw [i_le] at q2
              omega
            · rw [if_neg q2]
        simp only [hw', if_true, h9, hz, hu, h1, hs]
        obtain ⟨n, rfl⟩ : ∃ n', n = n' + 1 := ⟨n - 1, by omega⟩
        unfold f_M_pushes_L6
        simp only [itV, hp, Bool.false_eq_true, if_false]
        split <;> rfl
