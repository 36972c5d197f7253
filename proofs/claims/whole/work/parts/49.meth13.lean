/-! ===== sheets ===== -/
section METH13
variable {N : Int} {S : St}
theorem Inv.mvT {T : St} (h : Inv N S) (hc : ∀ c, (c < 37 ∨ 45 ≤ c) → c ≠ 53 → c ≠ 54 → c ≠ 55 → c ≠ 56 → T c = S c) (hs : I_sh T) : Inv N T := by
  refine ⟨h.1.of (hc _ (by omega) (by omega) (by omega) (by omega) (by omega)) (hc _ (by omega) (by omega) (by omega) (by omega) (by omega)) (hc _ (by omega) (by omega) (by omega) (by omega) (by omega)) (hc _ (by omega) (by omega) (by omega) (by omega) (by omega)) (hc _ (by omega) (by omega) (by omega) (by omega) (by omega)) (hc _ (by omega) (by omega) (by omega) (by omega) (by omega)) (fun i _ => by rw [hc 47 (by omega) (by omega) (by omega) (by omega) (by omega)]),
    h.2.1.of (hc _ (by omega) (by omega) (by omega) (by omega) (by omega)) (by rw [hc 46 (by omega) (by omega) (by omega) (by omega) (by omega)]) (hc _ (by omega) (by omega) (by omega) (by omega) (by omega)) (hc _ (by omega) (by omega) (by omega) (by omega) (by omega)) (hc _ (by omega) (by omega) (by omega) (by omega) (by omega)) (hc _ (by omega) (by omega) (by omega) (by omega) (by omega)) (hc _ (by omega) (by omega) (by omega) (by omega) (by omega)) (hc _ (by omega) (by omega) (by omega) (by omega) (by omega)) (hc _ (by omega) (by omega) (by omega) (by omega) (by omega)),
    h.2.2.1.of (hc _ (by omega) (by omega) (by omega) (by omega) (by omega)) (hc _ (by omega) (by omega) (by omega) (by omega) (by omega)),
    h.2.2.2.1.of (by rw [hc 34 (by omega) (by omega) (by omega) (by omega) (by omega)]) (by rw [hc 46 (by omega) (by omega) (by omega) (by omega) (by omega)]) (hc _ (by omega) (by omega) (by omega) (by omega) (by omega)) (hc _ (by omega) (by omega) (by omega) (by omega) (by omega)), hs⟩
theorem fill_loop {r : Nat} {x : Int32} : ∀ (m n j : Nat) (S : St), j + m = 40 → m + 2 ≤ n → f_JA_fill_L5 r n x (nI j) 40 S = some (va_up S r (fun i => if j ≤ i ∧ i < 40 then x else S r i)) := by
  intro m
  induction m with
  | zero =>
    intro n j S hj hn
    obtain ⟨n, rfl⟩ : ∃ n', n = n' + 1 := ⟨n - 1, by omega⟩
    have : j = 40 := by omega
    subst this
    rw [f_JA_fill_L5, if_pos (show (40 : Int32) ≤ nI 40 by decide)]
    have e : (fun i => if 40 ≤ i ∧ i < 40 then x else S r i) = S r := by
      funext i
      rw [if_neg (by omega)]
    rw [e, vu_id]
  | succ m ih =>
    intro n j S hj hn
    obtain ⟨n, rfl⟩ : ∃ n', n = n' + 1 := ⟨n - 1, by omega⟩
    have h1 : ¬ (40 : Int32) ≤ nI j := nI_ge (b := 40) (by omega) (by decide)
    rw [f_JA_fill_L5, if_neg h1, if_pos (inb_n (by omega) (by omega)), nI_clamp (by omega), ← nI_succ]
    dsimp only
    rw [ih n (j + 1) _ (by omega) (by omega), put_vu, bx_uu, vu_self]
    have e : (fun i => if j + 1 ≤ i ∧ i < 40 then x else upd (S r) j x i) = (fun i => if j ≤ i ∧ i < 40 then x else S r i) := by
      funext i
      by_cases hij : i = j
      · subst hij
        rw [if_neg (by omega), if_pos (by omega), upd_app, if_pos rfl]
      · by_cases h2 : j + 1 ≤ i ∧ i < 40
        · rw [if_pos h2, if_pos (by omega)]
        · rw [if_neg h2, if_neg (by omega), upd_app, if_neg hij]
    rw [e]
def zer (f : Nat → Int32) : Nat → Int32 := fun i => if i < 40 then 0 else f i
theorem l_fill {r : Nat} : f_JA_fill r 0 S = some (va_up S r (zer (S r))) := by
  unfold f_JA_fill
  have := fill_loop (r := r) (x := 0) 40 200 0 S (by omega) (by omega)
  rw [nI_0] at this
  rw [this]
  have e : (fun i => if 0 ≤ i ∧ i < 40 then 0 else S r i) = zer (S r) := by
    funext i
    unfold zer
    by_cases hi : i < 40
    · rw [if_pos (by omega), if_pos hi]
    · rw [if_neg (by omega), if_neg hi]
  rw [e]
theorem ix40 {s j : Nat} (hs : s < 4) (hj : j < 40) : inb (40 * nI s + nI j) 160 = true ∧ (40 * nI s + nI j).toNatClampNeg = 40 * s + j := by
  have hy : (40 * nI s + nI j) = nI (40 * s + j) := by
    rw [show (40 : Int32) = nI 40 from rfl, pk_mul, nI_add]
  rw [hy]
  exact ⟨inb_n (by omega) (by omega), nI_clamp (by omega)⟩
theorem m_sh_loop {s : Nat} {y z : Int32} (hs : s < 4) : ∀ (m n j : Nat) (S : St), j + m = 40 → m + 2 ≤ n → f_M_sheet_L83 n (nI s) y z (nI j) S = some (S 54 s, va_up S 55 (fun i => if 40 * s + j ≤ i ∧ i < 40 * s + 40 then 0 else S 55 i)) := by
  intro m
  induction m with
  | zero =>
    intro n j S hj hn
    obtain ⟨n, rfl⟩ : ∃ n', n = n' + 1 := ⟨n - 1, by omega⟩
    have : j = 40 := by omega
    subst this
    rw [f_M_sheet_L83, if_pos (show (40 : Int32) ≤ nI 40 by decide), if_pos (inb_n hs (by omega)), nI_clamp (by omega)]
    have e : (fun i => if 40 * s + 40 ≤ i ∧ i < 40 * s + 40 then 0 else S 55 i) = S 55 := by
      funext i
      rw [if_neg (by omega)]
    rw [e, vu_id]
  | succ m ih =>
    intro n j S hj hn
    obtain ⟨n, rfl⟩ : ∃ n', n = n' + 1 := ⟨n - 1, by omega⟩
    have h1 : ¬ (40 : Int32) ≤ nI j := nI_ge (b := 40) (by omega) (by decide)
    obtain ⟨x1, x2⟩ := ix40 hs (show j < 40 by omega)
    rw [f_M_sheet_L83, if_neg h1, if_pos x1, x2, ← nI_succ]
    dsimp only
    rw [ih n (j + 1) _ (by omega) (by omega), put_vu, bx_uu, vu_self, vu_ne _ _ (by decide)]
    have e : (fun i => if 40 * s + (j + 1) ≤ i ∧ i < 40 * s + 40 then 0 else upd (S 55) (40 * s + j) 0 i) = (fun i => if 40 * s + j ≤ i ∧ i < 40 * s + 40 then 0 else S 55 i) := by
      funext i
      by_cases hij : i = 40 * s + j
      · subst hij
        rw [if_neg (by omega), if_pos (by omega), upd_app, if_pos rfl]
      · by_cases h2 : 40 * s + (j + 1) ≤ i ∧ i < 40 * s + 40
        · rw [if_pos h2, if_pos (by omega)]
        · rw [if_neg h2, if_neg (by omega), upd_app, if_neg hij]
    rw [e]
theorem ite4 {α : Type} {a b c d : Prop} [Decidable a] [Decidable b] [Decidable c] [Decidable d] (h : a ∨ b ∨ c ∨ d) (E F : α) : (if a then E else (if b then E else (if c then E else (if d then E else F)))) = E := by
  by_cases ha : a
  · rw [if_pos ha]
  · rw [if_neg ha]
    by_cases hb : b
    · rw [if_pos hb]
    · rw [if_neg hb]
      by_cases hc : c
      · rw [if_pos hc]
      · rw [if_neg hc, if_pos (by rcases h with h | h | h | h <;> first | exact absurd h ha | exact absurd h hb | exact absurd h hc | exact h)]
theorem ite4n {α : Type} {a b c d : Prop} [Decidable a] [Decidable b] [Decidable c] [Decidable d] (h : ¬ (a ∨ b ∨ c ∨ d)) (E F : α) : (if a then E else (if b then E else (if c then E else (if d then E else F)))) = F := by
  rw [if_neg (fun q => h (Or.inl q)), if_neg (fun q => h (Or.inr (Or.inl q))), if_neg (fun q => h (Or.inr (Or.inr (Or.inl q)))), if_neg (fun q => h (Or.inr (Or.inr (Or.inr q))))]
def rnS (S : St) (s : Nat) (p x : Int32) : St := put (put (va_up S (38 + 2 * s) (zer (S (38 + 2 * s)))) (37 + 2 * s) 1 p) (37 + 2 * s) 2 x
theorem l_renew {s : Nat} {p q : Int32} : f_T_renew (37 + 2 * s) (38 + 2 * s) p q S = some (rnS S s p (if p = 0 then 0 else q)) := by
  have e : ∀ T : St, put T (37 + 2 * s) 1 p (37 + 2 * s) 1 = p := fun T => by rw [put_vu, vu_self, upd_app, if_pos rfl]
  unfold f_T_renew rnS
  rw [l_fill, Option.bind_some]
  dsimp only
  rw [l_isMissing, Option.bind_some]
  simp only [bI_0, e]
  congr 2
  by_cases hp : p = 0
  · simp [hp]
  · simp [hp]
theorem p_sheet (p q w : Int32) : Step2 N (f_S_sheet p q w) (f_M_sheet p q w) := by
  intro S h
  unfold f_S_sheet f_M_sheet
  simp only [l_isSheet, m_isSheet, Option.bind_some, bI_0, s_f0, m_f0, s_f6, m_f6]
  by_cases hy : shB p = false
  · simp only [hy, if_true]
    exact ⟨_, _, _, rfl, rfl, (h.find 0).up28⟩
  · have hy' : shB p = true := by simpa using hy
    obtain ⟨s, hs4, rfl⟩ := shB_t hy'
    simp only [hy', if_neg tnf]
    by_cases hbits : q = 0 ∨ q = 8 ∨ q = 16 ∨ q = 32
    case neg =>
      rw [ite4n hbits]
      refine ⟨_, _, _, rfl, ?_, (h.find 0).up28⟩
      rw [ite4n hbits]
    rw [ite4 hbits]
    by_cases h0 : 0 ≤ w
    case neg =>
      rw [if_neg h0]
      refine ⟨_, _, _, rfl, ?_, (h.find 6).up28⟩
      rw [ite4 hbits, if_neg h0]
    by_cases h40 : w ≤ 40
    case neg =>
      rw [if_pos h0, if_neg h40]
      refine ⟨_, _, _, rfl, ?_, (h.find 0).up28⟩
      rw [ite4 hbits, if_pos h0, if_neg h40]
    have cl : (nI s).toNatClampNeg = s := nI_clamp (by omega)
    rw [if_pos h0, if_pos h40, if_pos (inb_n hs4 (by omega)), cl, l_renew, Option.bind_some]
    refine ⟨if q = 0 then 0 else w, rnS S s q (if q = 0 then 0 else w), va_up (put (put (rnS S s q (if q = 0 then 0 else w)) 53 s q) 54 s (if q = 0 then 0 else w)) 55 (fun i => if 40 * s + 0 ≤ i ∧ i < 40 * s + 40 then 0 else S 55 i), ?_, ?_, ?_⟩
    · have e : rnS S s q (if q = 0 then 0 else w) (37 + 2 * s) 2 = (if q = 0 then 0 else w) := by
        unfold rnS
        rw [put_vu, vu_self, upd_app, if_pos rfl]
      rw [e]
    · rw [ite4 hbits, if_pos h0, if_pos h40, if_pos (inb_n hs4 (by omega))]
      have hl := m_sh_loop (y := q) (z := w) hs4 40 200 0 (put (put (rnS S s q (if q = 0 then 0 else w)) 53 s q) 54 s (if q = 0 then 0 else w)) (by omega) (by omega)
      rw [nI_0] at hl
      have e54 : put (put (rnS S s q (if q = 0 then 0 else w)) 53 s q) 54 s (if q = 0 then 0 else w) 54 s = (if q = 0 then 0 else w) := by
        rw [put_vu, vu_self, upd_app, if_pos rfl]
      have e55 : put (put (rnS S s q (if q = 0 then 0 else w)) 53 s q) 54 s (if q = 0 then 0 else w) 55 = S 55 := by
        unfold rnS
        rw [put_vu, vu_ne _ _ (by decide), put_vu, vu_ne _ _ (by decide), put_vu, vu_ne _ _ (by omega), put_vu, vu_ne _ _ (by omega), vu_ne _ _ (by omega)]
      rw [e54, e55] at hl
      exact hl
    · generalize hx : (if q = 0 then 0 else w) = x
      have hxb : 0 ≤ x.toInt ∧ x.toInt ≤ 40 := by
        rw [← hx]
        split
        · decide
        · rw [i_le, i0] at h0
          rw [i_le, show (40 : Int32).toInt = 40 from rfl] at h40
          omega
      have hr : ∀ c, c ≠ 37 + 2 * s → c ≠ 38 + 2 * s → c ≠ 53 → c ≠ 54 → c ≠ 55 → va_up (put (put (rnS S s q x) 53 s q) 54 s x) 55 (fun i => if 40 * s + 0 ≤ i ∧ i < 40 * s + 40 then 0 else S 55 i) c = S c := by
        intro c a1 a2 a3 a4 a5
        unfold rnS
        rw [vu_ne _ _ a5, put_vu, vu_ne _ _ a4, put_vu, vu_ne _ _ a3, put_vu, vu_ne _ _ a1, put_vu, vu_ne _ _ a1, vu_ne _ _ a2]
      refine (h.mvT (fun c a1 a2 a3 a4 a5 => hr c (by omega) (by omega) a2 a3 a4) ?_).up28
      have e53 : va_up (put (put (rnS S s q x) 53 s q) 54 s x) 55 (fun i => if 40 * s + 0 ≤ i ∧ i < 40 * s + 40 then 0 else S 55 i) 53 = upd (S 53) s q := by
        unfold rnS
        rw [vu_ne _ _ (by decide), put_vu, vu_ne _ _ (by decide), put_vu, vu_self, put_vu, vu_ne _ _ (by omega), put_vu, vu_ne _ _ (by omega), vu_ne _ _ (by omega)]
      have e54 : va_up (put (put (rnS S s q x) 53 s q) 54 s x) 55 (fun i => if 40 * s + 0 ≤ i ∧ i < 40 * s + 40 then 0 else S 55 i) 54 = upd (S 54) s x := by
        unfold rnS
        rw [vu_ne _ _ (by decide), put_vu, vu_self, put_vu, vu_ne _ _ (by decide), put_vu, vu_ne _ _ (by omega), put_vu, vu_ne _ _ (by omega), vu_ne _ _ (by omega)]
      have e37 : va_up (put (put (rnS S s q x) 53 s q) 54 s x) 55 (fun i => if 40 * s + 0 ≤ i ∧ i < 40 * s + 40 then 0 else S 55 i) (37 + 2 * s) = upd (upd (S (37 + 2 * s)) 1 q) 2 x := by
        unfold rnS
        rw [vu_ne _ _ (by omega), put_vu, vu_ne _ _ (by omega), put_vu, vu_ne _ _ (by omega), put_vu, vu_self, put_vu, vu_self, vu_ne _ _ (by omega)]
      have e38 : va_up (put (put (rnS S s q x) 53 s q) 54 s x) 55 (fun i => if 40 * s + 0 ≤ i ∧ i < 40 * s + 40 then 0 else S 55 i) (38 + 2 * s) = zer (S (38 + 2 * s)) := by
        unfold rnS
        rw [vu_ne _ _ (by omega), put_vu, vu_ne _ _ (by omega), put_vu, vu_ne _ _ (by omega), put_vu, vu_ne _ _ (by omega), put_vu, vu_ne _ _ (by omega), vu_self]
      intro t ht
      rw [e53, e54, vu_self]
      by_cases hts : t = s
      · subst hts
        rw [e37, e38]
        refine ⟨?_, ?_, hbits, hxb, fun i hi => ?_⟩
        · rw [upd_app, if_pos rfl]; rfl
        · rw [upd_app, if_pos rfl]; rfl
        · rw [if_pos (by omega)]
          unfold zer
          rw [if_pos hi]
      · rw [hr (37 + 2 * t) (by omega) (by omega) (by omega) (by omega) (by omega), hr (38 + 2 * t) (by omega) (by omega) (by omega) (by omega) (by omega), upd_app, if_neg hts, upd_app, if_neg hts]
        obtain ⟨g1, g2, g3, g4, g5⟩ := h.2.2.2.2 t ht
        refine ⟨g1, g2, g3, g4, fun i hi => ?_⟩
        rw [if_neg (by omega)]
        exact g5 i hi
end METH13
