/-! ===== what lies ahead: the trial lorry on one side, put and laid back on the other ===== -/
/-- cells that the invariant speaks of (34, 46, 47 apart) -/
def rl (c : Nat) : Prop := (c < 9 ∨ (10 ≤ c ∧ c ≤ 14) ∨ 35 ≤ c) ∧ c ≠ 46 ∧ c ≠ 47 ∧ c ≠ 49 ∧ c ≠ 52 ∧ c ≠ 56
theorem Inv.sameR {N : Int} {S T : St} (h : Inv N S) (hc : ∀ c, rl c → T c = S c) (h34 : T 34 1 = S 34 1) (h3 : T 46 3 = S 46 3) (h6 : T 46 6 = S 46 6) (h47 : ∀ i, i < 92 → T 47 i = S 47 i) : Inv N T := by
  refine h.same (fun c hm => hc c ?_) h34 h3 h6 h47
  have h1 : c ∈ [0, 1, 3, 4, 5, 6, 7, 8, 10, 11, 12, 13, 14, 35, 37, 38, 39, 40, 41, 42, 43, 44, 45, 48, 50, 51, 53, 54, 55] := hm
  have h2 : ∀ q ∈ [0, 1, 3, 4, 5, 6, 7, 8, 10, 11, 12, 13, 14, 35, 37, 38, 39, 40, 41, 42, 43, 44, 45, 48, 50, 51, 53, 54, 55], (q < 9 ∨ (10 ≤ q ∧ q ≤ 14) ∨ 35 ≤ q) ∧ q ≠ 46 ∧ q ≠ 47 ∧ q ≠ 49 ∧ q ≠ 52 ∧ q ≠ 56 := by decide
  exact h2 c h1
def cp10 (a b : Nat → Int32) : Nat → Int32 := va_cpy a b 0 0 10
theorem cp10_ag (a b : Nat → Int32) : ag (cp10 a b) a := by
  intro i hi
  unfold cp10
  rw [pk_cpy_in (by omega) (by omega)]
  congr 1
  omega
theorem l_become {c g h c1 g1 h1 : Nat} {S : St} : f_L_become c g h c1 g1 h1 S = some (va_up S h (cp10 (S h1) (S h))) := rfl
def lay92 (a b : Nat → Int32) : Nat → Int32 := fun i => if i < 92 then a i else b i
theorem m_lay_loop {r q : Nat} (hrq : r ≠ q) : ∀ (m n j : Nat) (S : St), j + m = 92 → m + 2 ≤ n → f_M_lay_L2 r q n (nI j) S = some (va_up S q (fun i => if j ≤ i ∧ i < 92 then S r i else S q i)) := by
  intro m
  induction m with
  | zero =>
    intro n j S hj hn
    obtain ⟨n, rfl⟩ : ∃ n', n = n' + 1 := ⟨n - 1, by omega⟩
    have : j = 92 := by omega
    subst this
    unfold f_M_lay_L2
    rw [if_pos (show (92 : Int32) ≤ nI 92 by decide)]
    have e : (fun i => if 92 ≤ i ∧ i < 92 then S r i else S q i) = S q := by
      funext i
      rw [if_neg (by omega)]
    rw [e, vu_id]
  | succ m ih =>
    intro n j S hj hn
    obtain ⟨n, rfl⟩ : ∃ n', n = n' + 1 := ⟨n - 1, by omega⟩
    unfold f_M_lay_L2
    have h1 : ¬ (92 : Int32) ≤ nI j := nI_ge (b := 92) (by omega) (by decide)
    rw [if_neg h1, if_pos (inb_n (by omega) (by omega)), nI_clamp (by omega), ← nI_succ]
    rw [ih n (j + 1) _ (by omega) (by omega)]
    simp only [put_vu, vu_self, vu_ne _ _ hrq, bx_uu]
    congr 2
    funext i
    by_cases hij : i = j
    · subst hij
      rw [if_neg (by omega), if_pos (by omega), upd_app, if_pos rfl]
    · by_cases h2 : j + 1 ≤ i ∧ i < 92
      · rw [if_pos h2, if_pos (by omega)]
      · rw [if_neg h2, if_neg (by omega), upd_app, if_neg hij]
theorem m_lay {r q : Nat} (hrq : r ≠ q) (S : St) : f_M_lay r q S = some (va_up S q (lay92 (S r) (S q))) := by
  unfold f_M_lay
  have := m_lay_loop hrq 92 200 0 S (by omega) (by omega)
  rw [nI_0] at this
  rw [this]
  have e : (fun i => if 0 ≤ i ∧ i < 92 then S r i else S q i) = lay92 (S r) (S q) := by
    funext i
    unfold lay92
    by_cases hi : i < 92
    · rw [if_pos (by omega), if_pos hi]
    · rw [if_neg (by omega), if_neg hi]
  rw [e]
theorem m_begin (S : St) : f_M_begin S = some (va_up S 49 (lay92 (S 47) (S 49))) := by
  unfold f_M_begin
  rw [m_lay (by decide)]
  rfl
theorem m_layBack (S : St) : f_M_layBack S = some (va_up S 47 (lay92 (S 49) (S 47))) := by
  unfold f_M_layBack
  rw [m_lay (by decide)]
  rfl
/-- an effort again and again, so many times at most: how often, and the numbers then -/
def agn (fm : Nat → Int32) (k : Int32) : Nat → (Nat → Int32) → Nat × (Nat → Int32)
  | 0, a => (0, a)
  | m + 1, a => if canB a k = true then ((agn fm k m (carV fm a k)).1 + 1, (agn fm k m (carV fm a k)).2) else (0, a)
theorem agn_s {fm : Nat → Int32} {k : Int32} {m : Nat} {a : Nat → Int32} : agn fm k (m + 1) a = if canB a k = true then ((agn fm k m (carV fm a k)).1 + 1, (agn fm k m (carV fm a k)).2) else (0, a) := rfl
theorem agn_le {fm : Nat → Int32} {k : Int32} : ∀ (m : Nat) (a : Nat → Int32), (agn fm k m a).1 ≤ m := by
  intro m
  induction m with
  | zero => intro a; exact Nat.le_refl _
  | succ m ih =>
    intro a
    rw [agn_s]
    split
    · have := ih (carV fm a k)
      show _ + 1 ≤ m + 1
      omega
    · exact Nat.zero_le _
theorem agn_ag {fm fm2 : Nat → Int32} (hf : agF fm fm2) (k : Int32) : ∀ (m : Nat) (a b : Nat → Int32), ag a b → (agn fm k m a).1 = (agn fm2 k m b).1 ∧ ag (agn fm k m a).2 (agn fm2 k m b).2 := by
  intro m
  induction m with
  | zero => intro a b h; exact ⟨rfl, h⟩
  | succ m ih =>
    intro a b h
    rw [agn_s, agn_s, can_ag h]
    split
    · obtain ⟨h1, h2⟩ := ih _ _ (car_ag hf h k)
      exact ⟨by rw [h1], h2⟩
    · exact ⟨rfl, h⟩
theorem agn_hi {fm : Nat → Int32} {k : Int32} {i : Nat} (hi : 10 ≤ i) : ∀ (m : Nat) (a : Nat → Int32), (agn fm k m a).2 i = a i := by
  intro m
  induction m with
  | zero => intro a; rfl
  | succ m ih =>
    intro a
    rw [agn_s]
    split
    · show (agn fm k m (carV fm a k)).2 i = a i
      rw [ih, car_hi hi]
    · rfl
/-- the class's walk over a trial lorry -/
theorem l_carT {S : St} {a : Nat → Int32} {N : Int} {k : Int32} (hk : 0 ≤ k ∧ k < 8) (hb : Bd a N) : f_L_carriesOut 22 3 23 k (va_up S 23 a) = some (canB a k, va_up S 23 (if canB a k = true then carV (S 3) a k else a)) := by
  rw [l_carriesOut (c := 22) (g := 3) (h := 23) (by decide) hk (by rw [vu_self]; exact hb.b0) (by rw [vu_self]; exact hb.b1)]
  simp only [vu_self, vu_ne S a (show (3 : Nat) ≠ 23 by decide), bx_uu]
  split <;> rfl
/-- the model's walk over its own row -/
theorem m_carT {S : St} {b : Nat → Int32} {N : Int} {k : Int32} (hk : 0 ≤ k ∧ k < 8) (hb : Bd b N) (hN : N < 1999000000) : f_M_canDo k (va_up S 47 b) = some (canB b k, va_up S 47 b) ∧ f_M_does k (va_up S 47 b) = some (va_up S 47 (carV (fun i => b (12 + i)) b k)) := by
  refine ⟨?_, ?_⟩
  · rw [m_canDo k hk (by rw [vu_self]; exact hb.min (by omega)), vu_self]
  · rw [m_does (N := N) k hk (by rw [vu_self]; exact hb) hN, vu_self, bx_uu]
theorem s_lasts_loop {S : St} {k p : Int32} (hk : 0 ≤ k ∧ k < 8) : ∀ (m n j : Nat) (a : Nat → Int32) (N : Int), j + m = 50 → m + 2 ≤ n → Bd a N → N + 1440 * m < 1999000000 → f_S_lasts_L47 n p k (nI j) (va_up S 23 a) = some (nI (j + (agn (S 3) k m a).1), va_up S 23 (agn (S 3) k m a).2) := by
  intro m
  induction m with
  | zero =>
    intro n j a N hj hn hb hN
    obtain ⟨n, rfl⟩ : ∃ n', n = n' + 1 := ⟨n - 1, by omega⟩
    have : j = 50 := by omega
    subst this
    unfold f_S_lasts_L47
    rw [if_pos (show (50 : Int32) ≤ nI 50 by decide)]
    rfl
  | succ m ih =>
    intro n j a N hj hn hb hN
    obtain ⟨n, rfl⟩ : ∃ n', n = n' + 1 := ⟨n - 1, by omega⟩
    unfold f_S_lasts_L47
    have h1 : ¬ (50 : Int32) ≤ nI j := nI_ge (b := 50) (by omega) (by decide)
    rw [if_neg h1, l_carT hk hb]
    simp only [Option.bind_some, bI_0]
    by_cases hc : canB a k = true
    · simp only [hc, if_true, if_neg tnf]
      rw [← nI_succ, ih n (j + 1) _ (N + 1440) (by omega) (by omega) (Bd_car hb (by omega)) (by omega)]
      rw [agn_s, if_pos hc]
      have e : j + 1 + (agn (S 3) k m (carV (S 3) a k)).1 = j + ((agn (S 3) k m (carV (S 3) a k)).1 + 1) := by omega
      rw [e]
    · have hc' : canB a k = false := by simpa using hc
      simp only [hc', if_true, Bool.false_eq_true, if_false]
      rw [agn_s, if_neg hc]
      rfl
theorem s_till_loop {S : St} {k : Int32} (hk : 0 ≤ k ∧ k < 8) (most : Nat) (hm : most ≤ 50) : ∀ (m n j : Nat) (a : Nat → Int32) (N : Int), j + m = most → m + 2 ≤ n → Bd a N → N + 1440 * m < 1999000000 → f_S_timesTillOut_L13 n k (nI most) (nI j) (va_up S 23 a) = some (if outB (agn (S 3) k m a).2 = false then (-1) else nI (j + (agn (S 3) k m a).1), va_up S 23 (agn (S 3) k m a).2) := by
  intro m
  induction m with
  | zero =>
    intro n j a N hj hn hb hN
    obtain ⟨n, rfl⟩ : ∃ n', n = n' + 1 := ⟨n - 1, by omega⟩
    have : j = most := by omega
    subst this
    unfold f_S_timesTillOut_L13
    rw [if_pos (nI_le (Nat.le_refl _) (by omega)), l_isOut]
    simp only [Option.bind_some, bI_0, vu_self]
    rfl
  | succ m ih =>
    intro n j a N hj hn hb hN
    obtain ⟨n, rfl⟩ : ∃ n', n = n' + 1 := ⟨n - 1, by omega⟩
    unfold f_S_timesTillOut_L13
    rw [if_neg (nI_ge (by omega) (by omega)), l_carT hk hb]
    simp only [Option.bind_some, bI_0]
    by_cases hc : canB a k = true
    · simp only [hc, if_true, if_neg tnf]
      rw [← nI_succ, ih n (j + 1) _ (N + 1440) (by omega) (by omega) (Bd_car hb (by omega)) (by omega)]
      rw [agn_s, if_pos hc]
      have e : j + 1 + (agn (S 3) k m (carV (S 3) a k)).1 = j + ((agn (S 3) k m (carV (S 3) a k)).1 + 1) := by omega
      rw [e]
    · have hc' : canB a k = false := by simpa using hc
      simp only [hc', if_true, Bool.false_eq_true, if_false, l_isOut, Option.bind_some, bI_0, vu_self]
      rw [agn_s, if_neg hc]
      rfl
theorem m_again_loop {S : St} {k : Int32} {fm : Nat → Int32} (hk : 0 ≤ k ∧ k < 8) (most : Nat) (hm : most ≤ 50) : ∀ (m n j : Nat) (b : Nat → Int32) (N : Int), j + m = most → m + 2 ≤ n → Bd b N → N + 1440 * m < 1999000000 → (∀ i, b (12 + i) = fm i) → f_M_again_L2 n k (nI most) (nI j) (va_up S 47 b) = some (nI (j + (agn fm k m b).1), va_up S 47 (agn fm k m b).2) := by
  intro m
  induction m with
  | zero =>
    intro n j b N hj hn hb hN hf
    obtain ⟨n, rfl⟩ : ∃ n', n = n' + 1 := ⟨n - 1, by omega⟩
    have : j = most := by omega
    subst this
    unfold f_M_again_L2
    rw [if_pos (nI_le (Nat.le_refl _) (by omega))]
    rfl
  | succ m ih =>
    intro n j b N hj hn hb hN hf
    obtain ⟨n, rfl⟩ : ∃ n', n = n' + 1 := ⟨n - 1, by omega⟩
    unfold f_M_again_L2
    obtain ⟨e1, e2⟩ := m_carT (S := S) hk hb (by omega)
    rw [if_neg (nI_ge (by omega) (by omega)), e1]
    simp only [Option.bind_some, bI_0]
    have efm : (fun i => b (12 + i)) = fm := funext hf
    by_cases hc : canB b k = true
    · simp only [hc, if_neg tnf, e2, Option.bind_some, efm]
      rw [← nI_succ, ih n (j + 1) _ (N + 1440) (by omega) (by omega) (Bd_car hb (by omega)) (by omega) (fun i => by rw [car_hi (by omega)]; exact hf i)]
      rw [agn_s, if_pos hc]
      have e : j + 1 + (agn fm k m (carV fm b k)).1 = j + ((agn fm k m (carV fm b k)).1 + 1) := by omega
      rw [e]
    · have hc' : canB b k = false := by simpa using hc
      simp only [hc', if_true]
      rw [agn_s, if_neg hc]
      rfl
