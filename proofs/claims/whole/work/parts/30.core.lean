/-! ===== the pure core: one effort of a lorry, in the words of the store ===== -/
theorem vu_self {α : Type} (S : Nat → α) (h : Nat) (a : α) : va_up S h a h = a := by simp [va_up]
theorem vu_ne {α : Type} (S : Nat → α) {h c : Nat} (a : α) (hc : c ≠ h) : va_up S h a c = S c := by simp [va_up, hc]
theorem vu_id {α : Type} (S : Nat → α) (h : Nat) : va_up S h (S h) = S := by
  funext c
  by_cases hc : c = h
  · subst hc; simp [va_up]
  · simp [va_up, hc]
theorem upd_app (f : Nat → Int32) (k : Nat) (x : Int32) (j : Nat) : upd f k x j = if j = k then x else f j := rfl
theorem put_vu (S : St) (c j : Nat) (x : Int32) : put S c j x = va_up S c (upd (S c) j x) := rfl
def hourF (a : Nat → Int32) : Int32 := (14 + a 7 / 60) - (14 + a 7 / 60) / 24 * 24
def heatF (a : Nat → Int32) : Int32 := if hourF a < 10 then (if 20 ≤ hourF a then 1 else if 5 < hourF a then 2 else 1) else if 16 < hourF a then (if 20 ≤ hourF a then 1 else if 5 < hourF a then 2 else 1) else 3
def crustF (a : Nat → Int32) : Int32 := if hourF a < 4 then 0 else if 7 < hourF a then 0 else 20
def gripF (a : Nat → Int32) (firm air : Int32) : Int32 := (firm + 3 * air) + crustF a
def weightF (a : Nat → Int32) : Int32 := (20 + a 2 / 2) + a 1
def yardB (y : Int32) : Bool := if y < 0 then false else if 40 ≤ y then false else true
def outB (a : Nat → Int32) : Bool := !yardB (a 0)
def waitF (a : Nat → Int32) : Int32 := 1440 - ((600 + a 7) - (600 + a 7) / 1440 * 1440)
def minF (a : Nat → Int32) (k : Int32) : Int32 := if k = 1 then 30 else if k = 2 then 45 else if k = 3 then 40 else if k = 4 then 10 else if k = 5 then 105 else if k = 6 then 1 else if k = 7 then waitF a else 1
def workF (k : Int32) : Int32 := if k = 1 then 3 else if k = 2 then 3 else if k = 3 then 2 else if k = 4 then 0 else if k = 5 then 4 else 0
def drinkF (a : Nat → Int32) (k : Int32) : Int32 := (((a 5 * (workF k + 1)) * heatF a) * minF a k) / 60
section CORE
variable {c g h : Nat} {S : St}
theorem bI_0 (b : Bool) : (bI b = 0) ↔ b = false := by cases b <;> decide
theorem bI_1 (b : Bool) : ¬ (bI b = 0) ↔ b = true := by cases b <;> decide
theorem l_hour : f_L_hour c g h S = some (hourF (S h), S) := rfl
theorem l_heat : f_L_heat c g h S = some (heatF (S h), S) := by
  unfold f_L_heat heatF
  rw [l_hour]
  simp only [Option.bind_some]
  split
  · rfl
  · split <;> rfl
theorem l_gripOf (x y : Int32) : f_L_gripOf c g h x y S = some (gripF (S h) x y, S) := by
  unfold f_L_gripOf gripF crustF
  rw [l_hour]
  rfl
theorem l_weight : f_L_weight c g h S = some (weightF (S h), S) := rfl
theorem l_isYard (y : Int32) : f_S_isYard y S = some (yardB y, S) := rfl
theorem l_isOut : f_L_isOut c g h S = some (outB (S h), S) := by
  unfold f_L_isOut outB
  rw [l_isYard]
  simp only [Option.bind_some]
  cases yardB (S h 0) <;> rfl
theorem l_minutesOf (k : Int32) : f_L_minutesOf c g h k S = some (minF (S h) k, S) := by
  unfold f_L_minutesOf minF waitF
  repeat' split
  all_goals rfl
theorem l_workOf (k : Int32) : f_S_workOf k S = some (workF k, S) := by
  unfold f_S_workOf workF
  repeat' split
  all_goals rfl
theorem l_drinkOf (k : Int32) : f_L_drinkOf c g h k S = some (drinkF (S h) k, S) := by
  unfold f_L_drinkOf drinkF
  rw [l_workOf]
  simp only [Option.bind_some, l_heat, l_minutesOf]
/-- is it of a kind, or under it -/
def underB (k w : Int32) : Bool := if k = w then true else if w = 0 then true else if w = 1 then (if k = 2 then true else if k = 5 then true else false) else if w = 2 then (if k = 5 then true else false) else false
theorem kind_cases {k : Int32} (h0 : 0 ≤ k) (h1 : k < 8) : k = 0 ∨ k = 1 ∨ k = 2 ∨ k = 3 ∨ k = 4 ∨ k = 5 ∨ k = 6 ∨ k = 7 := by
  obtain ⟨j, hj, rfl⟩ := nI_of (x := k) (by exact Int32.not_lt.mpr h0)
  have h2 : j < 8 := (nI_ltI (a := j) (b := 8) hj (by decide)).mp h1
  rcases (show j = 0 ∨ j = 1 ∨ j = 2 ∨ j = 3 ∨ j = 4 ∨ j = 5 ∨ j = 6 ∨ j = 7 by omega) with rfl | rfl | rfl | rfl | rfl | rfl | rfl | rfl <;> decide
end CORE
section CORE2
variable {c g h : Nat} {S : St}
theorem l_isOfKind {k w : Int32} (hk : 0 ≤ k ∧ k < 8) (hw : 0 ≤ w ∧ w < 8) : f_S_isOfKind k w S = some (underB k w, S) := by
  rcases kind_cases hk.1 hk.2 with rfl | rfl | rfl | rfl | rfl | rfl | rfl | rfl <;> rcases kind_cases hw.1 hw.2 with rfl | rfl | rfl | rfl | rfl | rfl | rfl | rfl <;> rfl
theorem yardB_iff {y : Int32} : yardB y = true ↔ (¬ y < 0 ∧ ¬ 40 ≤ y) := by
  unfold yardB
  by_cases h1 : y < 0
  · simp [h1]
  · by_cases h2 : 40 ≤ y <;> simp [h1, h2]
theorem yardB_inb {y : Int32} (h : yardB y = true) : inb y 40 = true := by
  obtain ⟨h1, h2⟩ := yardB_iff.mp h
  obtain ⟨j, hj, rfl⟩ := nI_of h1
  have h3 : j < 40 := by
    rcases Nat.lt_or_ge j 40 with q | q
    · exact q
    · exact absurd (nI_le (a := 40) q hj) h2
  unfold inb
  exact decide_eq_true (vp_in_nI h3 (by decide))
/-- one push: does it go on; the numbers behind it -/
def pushV (fm a : Nat → Int32) (step : Int32) (bon : Int32 → Int32) (li : Int32) : Bool × (Nat → Int32) :=
  if yardB (a 0) = false then (false, a)
  else if weightF a - li ≤ gripF a (fm (a 0).toNatClampNeg) (a 3) + bon (a 0) then (true, upd (upd (upd a 9 (a 9 + 1)) 0 (a 0 + step)) 1 0)
  else (false, upd (upd a 9 (a 9 + 1)) 1 (if a 1 + 4 < 99 then a 1 + 4 else 99))
theorem gripF_9 (a : Nat → Int32) (x f r : Int32) : gripF (upd a 9 x) f r = gripF a f r := rfl
theorem weightF_9 (a : Nat → Int32) (x : Int32) : weightF (upd a 9 x) = weightF a := rfl
theorem l_push (hgh : g ≠ h) (step bt li : Int32) : f_L_push c g h step bt li S = some ((pushV (S g) (S h) step (fun y => if bt ≤ y then 0 else 30) li).1, va_up S h (pushV (S g) (S h) step (fun y => if bt ≤ y then 0 else 30) li).2) := by
  unfold f_L_push pushV
  rw [l_isYard]
  simp only [Option.bind_some, bI_0]
  by_cases hy : yardB (S h 0) = false
  · simp only [hy, if_true, vu_id]
  · have hy' : yardB (S h 0) = true := by simpa using hy
    simp only [hy, if_false, yardB_inb hy', if_true, put_vu, l_gripOf, l_weight, vu_self, vu_ne _ _ hgh, Option.bind_some, bx_uu, gripF_9, weightF_9]
    simp only [upd_app, if_neg (show ¬ (3 : Nat) = 9 by decide), if_neg (show ¬ (1 : Nat) = 9 by decide), if_neg (show ¬ (1 : Nat) = 0 by decide)]
    have e0 : (true = false) = False := by simp
    simp only [hy', e0, if_false]
    by_cases hw : weightF (S h) - li ≤ gripF (S h) (S g (S h 0).toNatClampNeg) (S h 3) + (if bt ≤ S h 0 then 0 else 30)
    · simp only [hw, if_true]
    · simp only [hw, if_false]
def itV (fm : Nat → Int32) (step : Int32) (bon : Int32 → Int32) (li : Int32) : Nat → (Nat → Int32) → (Nat → Int32)
  | 0, a => a
  | m + 1, a => if (pushV fm a step bon li).1 = true then itV fm step bon li m (pushV fm a step bon li).2 else (pushV fm a step bon li).2
theorem l_drive_loop (hgh : g ≠ h) (k x3 bt li step : Int32) (mm : Nat) (hm : mm < 100) : ∀ (m n j : Nat) (S : St), j + m = mm → m + 2 ≤ n → f_L_drive_L77 c g h n k x3 bt li step (nI mm) 1 (nI j) S = some (va_up S h (itV (S g) step (fun y => if bt ≤ y then 0 else 30) li m (S h))) := by
  intro m
  induction m with
  | zero =>
    intro n j S hj hn
    obtain ⟨n, rfl⟩ : ∃ n', n = n' + 1 := ⟨n - 1, by omega⟩
    have : j = mm := by omega
    subst this
    unfold f_L_drive_L77
    rw [if_pos (nI_le (Nat.le_refl _) (by omega))]
    simp only [itV, vu_id]
  | succ m ih =>
    intro n j S hj hn
    obtain ⟨n, rfl⟩ : ∃ n', n = n' + 1 := ⟨n - 1, by omega⟩
    unfold f_L_drive_L77
    rw [if_neg (nI_ge (by omega) (by omega)), if_neg (by decide), l_push hgh]
    simp only [Option.bind_some]
    by_cases hp : (pushV (S g) (S h) step (fun y => if bt ≤ y then 0 else 30) li).1 = true
    · rw [hp]
      have e1 : bI true = 1 := rfl
      rw [e1, ← nI_succ, ih n (j + 1) _ (by omega) (by omega)]
      simp only [vu_self, vu_ne _ _ hgh, bx_uu, itV, hp, if_true]
    · have hp' : (pushV (S g) (S h) step (fun y => if bt ≤ y then 0 else 30) li).1 = false := by simpa using hp
      rw [hp']
      obtain ⟨n, rfl⟩ : ∃ n', n = n' + 1 := ⟨n - 1, by omega⟩
      unfold f_L_drive_L77
      simp only [itV, hp', Bool.false_eq_true, if_false]
      split
      · rfl
      · rw [if_pos (by decide)]
def brdF (a : Nat → Int32) (k : Int32) : Int32 := if underB k 2 = false then 0 else a 4
def mostF (a : Nat → Int32) (k : Int32) : Int32 := if 3 < brdF a k + 1 then brdF a k + 1 else 3
def driveV (fm a : Nat → Int32) (k : Int32) : Nat → Int32 :=
  itV fm (if k = 6 then (-1) else 1) (fun y => if (if brdF a k ≤ 0 then 0 else a 0 + brdF a k) ≤ y then 0 else 30) (if k = 5 then 15 else 0) (mostF a k).toNatClampNeg a
theorem most_n {a : Nat → Int32} {k : Int32} (h0 : 0 ≤ a 4) (h1 : a 4 ≤ 8) : ∃ j : Nat, j ≤ 9 ∧ mostF a k = nI j := by
  obtain ⟨j, hj, e⟩ := nI_of2 (M := 8) (n := 8) (by decide) (Int32.not_lt.mpr h0) h1
  unfold mostF brdF
  split
  · exact ⟨3, by omega, by decide⟩
  · rw [e, ← nI_succ]
    split
    · exact ⟨j + 1, by omega, rfl⟩
    · exact ⟨3, by omega, by decide⟩
theorem l_drive (hgh : g ≠ h) {k : Int32} (hk : 0 ≤ k ∧ k < 8) (h0 : 0 ≤ S h 4) (h1 : S h 4 ≤ 8) : f_L_drive c g h k S = some (va_up S h (driveV (S g) (S h) k)) := by
  unfold f_L_drive driveV
  rw [l_isOfKind hk (by decide)]
  simp only [Option.bind_some, bI_0]
  obtain ⟨j, hj, e⟩ := most_n (a := S h) (k := k) h0 h1
  have e2 : (if 3 < (if underB k 2 = false then 0 else S h 4) + 1 then (if underB k 2 = false then 0 else S h 4) + 1 else 3) = nI j := by
    rw [← e]; rfl
  rw [e2, e, nI_clamp (by omega)]
  have := l_drive_loop (c := c) (g := g) (h := h) hgh k (brdF (S h) k) (if brdF (S h) k ≤ 0 then 0 else S h 0 + brdF (S h) k) (if k = 5 then 15 else 0) (if k = 6 then (-1) else 1) j (by omega) j 200 0 S (by omega) (by omega)
  rw [nI_0] at this
  exact this
def canB (a : Nat → Int32) (k : Int32) : Bool := if outB a = true then false else if drinkF a k ≤ a 6 then true else false
def startV (a : Nat → Int32) (k : Int32) : Nat → Int32 := upd (upd (upd a 7 (a 7 + minF a k)) 6 (a 6 - drinkF a k)) 8 (a 8 + drinkF a k)
def midV (a : Nat → Int32) (k : Int32) : Nat → Int32 :=
  if underB k 1 = true then upd a 1 (if 0 < a 1 - 10 * a 5 then a 1 - 10 * a 5 else 0)
  else if k = 3 then upd a 2 (if 0 < a 2 - 10 then a 2 - 10 else 0)
  else if k = 4 then upd a 3 (if a 3 + 3 < 9 then a 3 + 3 else 9) else a
def carV (fm a : Nat → Int32) (k : Int32) : Nat → Int32 := if k = 7 then startV a k else driveV fm (midV (startV a k) k) k
theorem mid_4 (a : Nat → Int32) (k : Int32) : midV (startV a k) k 4 = a 4 := by
  unfold midV
  split
  · rfl
  · split
    · rfl
    · split <;> rfl
theorem l_carriesOut (hgh : g ≠ h) {k : Int32} (hk : 0 ≤ k ∧ k < 8) (h0 : 0 ≤ S h 4) (h1 : S h 4 ≤ 8) : f_L_carriesOut c g h k S = some (canB (S h) k, if canB (S h) k = true then va_up S h (carV (S g) (S h) k) else S) := by
  have hd : ∀ a, 0 ≤ (va_up S h a) h 4 → (va_up S h a) h 4 ≤ 8 → f_L_drive c g h k (va_up S h a) = some (va_up S h (driveV (S g) a k)) := by
    intro a q0 q1
    rw [l_drive hgh hk q0 q1]
    simp only [vu_self, vu_ne _ _ hgh, bx_uu]
  unfold f_L_carriesOut canB
  simp only [l_drinkOf, l_isOut, Option.bind_some, bI_0]
  by_cases ho : outB (S h) = true
  · simp [ho]
  · have ho' : outB (S h) = false := by simpa using ho
    simp only [ho', if_true, Bool.false_eq_true, if_false]
    by_cases hw : drinkF (S h) k ≤ S h 6
    · simp only [hw, if_true, l_minutesOf, Option.bind_some, put_vu, vu_self, bx_uu, l_isOfKind hk (show (0 : Int32) ≤ 1 ∧ (1 : Int32) < 8 by decide), bI_0]
      have m4 := mid_4 (S h) k
      rcases kind_cases hk.1 hk.2 with rfl | rfl | rfl | rfl | rfl | rfl | rfl | rfl
      all_goals
        simp (decide := true) only [underB, if_true, if_false, carV, midV]
        first
          | rfl
          | (rw [hd _ (by simpa [vu_self, upd_app] using h0) (by simpa [vu_self, upd_app] using h1)]; rfl)
    · simp [hw]
end CORE2
