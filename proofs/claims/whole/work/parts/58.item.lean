/-! ===== the items: the class's draft, the model's scene ===== -/
section ITEMS
variable {b : Nat → Int32} {L : Nat} {N : Int} {S T : St}
def DR (N : Int) (S T : St) : Prop := Sc N (S 15 5) (S 18) (S 19) (S 20) (S 21) ∧ ∀ i, i < 92 → T 47 i = pkF (S 15 6) (S 15 5) (S 18) (S 17) (S 19) (S 20) (S 21) i
theorem DR.of {S' T' : St} (h : DR N S T) (h15 : S' 15 = S 15) (h17 : S' 17 = S 17) (h18 : S' 18 = S 18) (h19 : S' 19 = S 19) (h20 : S' 20 = S 20) (h21 : S' 21 = S 21) (h47 : T' 47 = T 47) : DR N S' T' := by
  unfold DR at h ⊢
  rw [h15, h17, h18, h19, h20, h21, h47]
  exact h
def FS (S S' : St) : Prop := ∀ c, c ≠ 15 → c ≠ 17 → c ≠ 18 → c ≠ 21 → c ≠ 34 → S' c = S c
def FM (T T' : St) : Prop := (∀ c, c ≠ 46 → c ≠ 47 → T' c = T c) ∧ ∀ j, j < 7 → T' 46 j = T 46 j
theorem FS.rf : FS S S := fun _ _ _ _ _ _ => rfl
theorem FM.rf : FM T T := ⟨fun _ _ _ => rfl, fun _ _ => rfl⟩
theorem FS.tr {S1 S2 : St} (h : FS S S1) (h2 : FS S1 S2) : FS S S2 := fun c a1 a2 a3 a4 a5 => (h2 c a1 a2 a3 a4 a5).trans (h c a1 a2 a3 a4 a5)
theorem FM.tr {T1 T2 : St} (h : FM T T1) (h2 : FM T1 T2) : FM T T2 := ⟨fun c a1 a2 => (h2.1 c a1 a2).trans (h.1 c a1 a2), fun j hj => (h2.2 j hj).trans (h.2 j hj)⟩
theorem pr_step {e : Nat} (hB : TB b L) (h : TR0 b L S T e) (hd : DR N S T) : ∃ S' T' k st e', f_P_step S = some S' ∧ f_M_next T = some T' ∧ TR b L S' T' k st e' ∧ DR N S' T' ∧ (∀ c, c ≠ 34 → S' c = S c) ∧ (∀ c, c ≠ 46 → T' c = T c) ∧ FS S S' ∧ FM T T' ∧ e ≤ e' ∧ (¬ k = 0 → e < e') := by
  obtain ⟨g, g2, k, st, e', a1, a2, a3, a4, a5, a6⟩ := tk_step hB h
  have hs : ∀ c, c ≠ 34 → va_up S 34 g c = S c := fun c hc => vu_ne _ _ hc
  have ht : ∀ c, c ≠ 46 → va_up T 46 g2 c = T c := fun c hc => vu_ne _ _ hc
  exact ⟨_, _, k, st, e', a1, a2, a4, hd.of (hs _ (by decide)) (hs _ (by decide)) (hs _ (by decide)) (hs _ (by decide)) (hs _ (by decide)) (hs _ (by decide)) (ht _ (by decide)), hs, ht, fun c _ _ _ _ z => hs c z, ⟨fun c z _ => ht c z, fun j hj => by rw [vu_self]; exact a3 j hj⟩, a5, a6⟩
theorem DR.setA (h : DR N S T) {j : Nat} {x : Int32} (hj : j < 10) (hb : Bd (upd (S 18) j x) N) : DR N (put S 18 j x) (put T 47 j x) := by
  have hs : ∀ c, c ≠ 18 → put S 18 j x c = S c := fun c hc => by rw [put_vu, vu_ne _ _ hc]
  have e1 : put S 18 j x 18 = upd (S 18) j x := by rw [put_vu, vu_self]
  have e2 : put T 47 j x 47 = upd (T 47) j x := by rw [put_vu, vu_self]
  unfold DR
  rw [hs 15 (by decide), hs 17 (by decide), hs 19 (by decide), hs 20 (by decide), hs 21 (by decide), e1, e2]
  exact ⟨⟨hb, h.1.2⟩, fun i hi => (upd_ag92 h.2 i hi).trans (pk_lo hj i hi)⟩
theorem DR.setF (h : DR N S T) {j : Nat} {x : Int32} (hj : j < 40) : DR N (put S 17 j x) (put T 47 (12 + j) x) := by
  have hs : ∀ c, c ≠ 17 → put S 17 j x c = S c := fun c hc => by rw [put_vu, vu_ne _ _ hc]
  have e1 : put S 17 j x 17 = upd (S 17) j x := by rw [put_vu, vu_self]
  have e2 : put T 47 (12 + j) x 47 = upd (T 47) (12 + j) x := by rw [put_vu, vu_self]
  unfold DR
  rw [hs 15 (by decide), hs 18 (by decide), hs 19 (by decide), hs 20 (by decide), hs 21 (by decide), e1, e2]
  exact ⟨h.1, fun i hi => (upd_ag92 h.2 i hi).trans (pk_f hj i hi)⟩
theorem DR.add (h : DR N S T) {p : Nat} {x : Int32} (hp : p < 20) (hn : S 15 5 = nI p) (hx : 0 ≤ x.toInt ∧ x.toInt ≤ 7) : DR N (put (put S 21 p x) 15 5 (nI (p + 1))) (put (put T 47 (72 + p) x) 47 11 (nI (p + 1))) := by
  have hs : ∀ c, c ≠ 15 → c ≠ 21 → put (put S 21 p x) 15 5 (nI (p + 1)) c = S c := fun c h1 h2 => by rw [put_vu, vu_ne _ _ h1, put_vu, vu_ne _ _ h2]
  have e1 : put (put S 21 p x) 15 5 (nI (p + 1)) 21 = upd (S 21) p x := by rw [put_vu, vu_ne _ _ (by decide), put_vu, vu_self]
  have e2 : put (put S 21 p x) 15 5 (nI (p + 1)) 15 5 = nI (p + 1) := by rw [put_vu, vu_self]; rfl
  have e3 : put (put S 21 p x) 15 5 (nI (p + 1)) 15 6 = S 15 6 := by
    rw [put_vu, vu_self]
    show put S 21 p x 15 6 = S 15 6
    rw [put_vu, vu_ne _ _ (by decide)]
  have e4 : put (put T 47 (72 + p) x) 47 11 (nI (p + 1)) 47 = upd (upd (T 47) (72 + p) x) 11 (nI (p + 1)) := by rw [put_vu, vu_self, put_vu, vu_self]
  unfold DR
  rw [hs 17 (by decide) (by decide), hs 18 (by decide) (by decide), hs 19 (by decide) (by decide), hs 20 (by decide) (by decide), e1, e2, e3, e4]
  obtain ⟨⟨h1, h2, h3, h4, h5⟩, h6⟩ := h
  rw [hn, nI_toInt (by omega)] at h5
  refine ⟨⟨h1, h2, h3, ?_, fun i hi => ?_⟩, fun i hi => ?_⟩
  · rw [nI_toInt (by omega)]; omega
  · rw [nI_toInt (by omega)] at hi
    rw [upd_app]
    by_cases e : i = p
    · rw [if_pos e]; exact hx
    · rw [if_neg e]; exact h5 i (by omega)
  · have q1 : ∀ i, i < 92 → upd (T 47) (72 + p) x i = pkF (S 15 6) (S 15 5) (S 18) (S 17) (S 19) (S 20) (upd (S 21) p x) i := fun i hi => (upd_ag92 h6 i hi).trans (pk_pl hp i hi)
    exact (upd_ag92 q1 i hi).trans (pk_n i hi)
theorem vr_in {x y lo up : Int32} (h : vr x y) (h1 : lo.toInt ≤ 9999) (h2 : up.toInt ≤ 9999) : inB y lo up = inB x lo up ∧ (inB x lo up = true → x = y) := by
  rcases h with ⟨rfl, -, -⟩ | ⟨rfl, a⟩
  · exact ⟨rfl, fun _ => rfl⟩
  · have e1 : inB y lo up = false := inB_hi (by rw [i_lt]; omega)
    have e2 : inB 10000 lo up = false := inB_hi (by rw [i_lt, i10000]; omega)
    rw [e1, e2]
    exact ⟨rfl, fun z => by cases z⟩
theorem vr_pos {x y : Int32} (h : vr x y) : ¬ x < 0 := by
  rw [i_lt, i0]
  rcases h with ⟨rfl, a, -⟩ | ⟨rfl, -⟩
  · omega
  · decide
def It (N : Int) (b : Nat → Int32) (L : Nat) (S T : St) (e : Nat) (fs fm : Option (Bool × St)) : Prop := ∃ ok S' T' k st e', fs = some (ok, S') ∧ fm = some (ok, T') ∧ TR b L S' T' k st e' ∧ DR N S' T' ∧ FS S S' ∧ FM T T' ∧ e ≤ e'
theorem It.pre {S1 T1 : St} {e e1 : Nat} {fs fm : Option (Bool × St)} (h1 : FS S S1) (h2 : FM T T1) (h3 : e ≤ e1) (h : It N b L S1 T1 e1 fs fm) : It N b L S T e fs fm := by
  obtain ⟨ok, S', T', k, st, e', a1, a2, a3, a4, a5, a6, a7⟩ := h
  exact ⟨ok, S', T', k, st, e', a1, a2, a3, a4, h1.tr a5, h2.tr a6, Nat.le_trans h3 a7⟩
theorem It.stop {k : Int32} {st e : Nat} {fs fm : Option (Bool × St)} {ok : Bool} (h : TR b L S T k st e) (hd : DR N S T) (h1 : fs = some (ok, S)) (h2 : fm = some (ok, T)) : It N b L S T e fs fm := ⟨ok, S, T, k, st, e, h1, h2, h, hd, FS.rf, FM.rf, Nat.le_refl _⟩
/-- least and most of the numbers that a text may set -/
theorem lm {p : Nat} (h1 : 2 ≤ p) (h2 : p ≤ 6) : ∃ lo up : Int32, (∀ U, f_S_leastOf (nI p) U = some (lo, U)) ∧ (∀ U, f_S_mostOf (nI p) U = some (up, U)) ∧ (∀ v U, f_M_isSet (nI p) v U = some (inB v lo up, U)) ∧ lo.toInt ≤ 9999 ∧ up.toInt ≤ 9999 ∧ ∀ (a : Nat → Int32) (N : Int) (x : Int32), Bd a N → ¬ x < lo → x ≤ up → Bd (upd a p x) N := by
  rcases (show p = 2 ∨ p = 3 ∨ p = 4 ∨ p = 5 ∨ p = 6 by omega) with rfl | rfl | rfl | rfl | rfl
  · refine ⟨0, 99, fun _ => rfl, fun _ => rfl, fun _ _ => rfl, by decide, by decide, fun a N x h a1 a2 => ?_⟩
    obtain ⟨hb0, hb1, hb2, hb3, hb4, hb5, hb7⟩ := h
    refine ⟨hb0, hb1, ?_, hb3, hb4, hb5, hb7⟩
    show 0 ≤ x.toInt ∧ x.toInt ≤ 99
    rw [i_lt, i0] at a1
    rw [i_le, show (99 : Int32).toInt = 99 from rfl] at a2
    omega
  · refine ⟨0, 9, fun _ => rfl, fun _ => rfl, fun _ _ => rfl, by decide, by decide, fun a N x h a1 a2 => ?_⟩
    obtain ⟨hb0, hb1, hb2, hb3, hb4, hb5, hb7⟩ := h
    refine ⟨hb0, hb1, hb2, ?_, hb4, hb5, hb7⟩
    show 0 ≤ x.toInt ∧ x.toInt ≤ 9
    rw [i_lt, i0] at a1
    rw [i_le, show (9 : Int32).toInt = 9 from rfl] at a2
    omega
  · refine ⟨0, 8, fun _ => rfl, fun _ => rfl, fun _ _ => rfl, by decide, by decide, fun a N x h a1 a2 => ?_⟩
    obtain ⟨hb0, hb1, hb2, hb3, hb4, hb5, hb7⟩ := h
    refine ⟨hb0, hb1, hb2, hb3, ?_, hb5, hb7⟩
    show 0 ≤ x.toInt ∧ x.toInt ≤ 8
    rw [i_lt, i0] at a1
    rw [i_le, show (8 : Int32).toInt = 8 from rfl] at a2
    omega
  · refine ⟨1, 8, fun _ => rfl, fun _ => rfl, fun _ _ => rfl, by decide, by decide, fun a N x h a1 a2 => ?_⟩
    obtain ⟨hb0, hb1, hb2, hb3, hb4, hb5, hb7⟩ := h
    refine ⟨hb0, hb1, hb2, hb3, hb4, ?_, hb7⟩
    show 1 ≤ x.toInt ∧ x.toInt ≤ 8
    rw [i_lt, i1] at a1
    rw [i_le, show (8 : Int32).toInt = 8 from rfl] at a2
    omega
  · refine ⟨0, 9999, fun _ => rfl, fun _ => rfl, fun _ _ => rfl, by decide, by decide, fun a N x h a1 a2 => ?_⟩
    obtain ⟨hb0, hb1, hb2, hb3, hb4, hb5, hb7⟩ := h
    exact ⟨hb0, hb1, hb2, hb3, hb4, hb5, hb7⟩
theorem it_num {e p : Nat} (hB : TB b L) (h : TR0 b L S T e) (hd : DR N S T) (h1 : 2 ≤ p) (h2 : p ≤ 6) : It N b L S T e (f_P_readNumber (nI p) S) (f_M_takesSet (nI p) T) := by
  obtain ⟨lo, up, l1, l2, l3, l4, l5, l6⟩ := lm h1 h2
  obtain ⟨S1, T1, k, st, e1, a1, a2, a3, a4, a5, a6, a7, a8, a9, -⟩ := pr_step hB h hd
  refine It.pre a7 a8 a9 ?_
  unfold f_P_readNumber f_M_takesSet
  have n2 : ¬ nI p < 2 := nI_nlt (b := 2) h1 (by omega)
  have n6 : ¬ (6 : Int32) < nI p := nI_nlt (a := 6) h2 (by omega)
  rw [a1, a2, Option.bind_some, Option.bind_some, if_neg n2, if_neg n6, a3.2.2.1, a3.2.2.2.1]
  by_cases hk : k = 2
  · have hv := a3.2.2.2.2.2.2 hk
    have hi := vr_in hv l4 l5
    rw [if_pos hk, if_pos hk, l1, Option.bind_some, l2, Option.bind_some, l3, Option.bind_some, hi.1]
    dsimp only
    by_cases q1 : S1 34 5 < lo
    · rw [if_pos q1, inB_lo q1, if_pos (show bI false = 0 from rfl)]
      exact It.stop a3 a4 rfl rfl
    · rw [if_neg q1]
      by_cases q2 : S1 34 5 ≤ up
      · have ht : inB (S1 34 5) lo up = true := inB_ok q1 q2
        have ex := hi.2 ht
        rw [if_pos q2, ht, if_neg (show ¬ bI true = 0 by decide), if_pos (inb_n (show p < 10 by omega) (by omega)), if_pos (inb_n (show p < 92 by omega) (by omega)), nI_clamp (by omega), ← ex]
        have hd2 : DR N (put S1 18 p (S1 34 5)) (put T1 47 p (S1 34 5)) := a4.setA (by omega) (l6 _ _ _ a4.1.1 q1 q2)
        have hs : ∀ c, c ≠ 18 → put S1 18 p (S1 34 5) c = S1 c := fun c hc => by rw [put_vu, vu_ne _ _ hc]
        have ht2 : ∀ c, c ≠ 47 → put T1 47 p (S1 34 5) c = T1 c := fun c hc => by rw [put_vu, vu_ne _ _ hc]
        have h0 : TR0 b L (put S1 18 p (S1 34 5)) (put T1 47 p (S1 34 5)) e1 := a3.1.of (hs _ (by decide)) (hs _ (by decide)) (ht2 _ (by decide)) (ht2 _ (by decide))
        obtain ⟨S2, T2, k2, st2, e2, c1, c2, c3, c4, c5, c6, c7, c8, c9, -⟩ := pr_step hB h0 hd2
        rw [c1, c2]
        refine ⟨true, S2, T2, k2, st2, e2, rfl, rfl, c3, c4, FS.tr (fun c _ _ z _ _ => hs c z) c7, FM.tr ⟨fun c _ z => ht2 c z, fun j _ => by rw [ht2 46 (by decide)]⟩ c8, c9⟩
      · rw [if_neg q2, inB_hi (Int32.not_le.mp q2), if_pos (show bI false = 0 from rfl)]
        exact It.stop a3 a4 rfl rfl
  · rw [if_neg hk, if_neg hk]
    exact It.stop a3 a4 rfl rfl
theorem b_if (c : Bool) : (if bI c = 0 then false else true) = c := by cases c <;> rfl
theorem m_isNumber {lo up : Int32} : f_M_isNumber lo up T = some (if T 46 8 = 2 then inB (T 46 10) lo up else false, T) := by
  unfold f_M_isNumber
  by_cases q : T 46 8 = 2
  · rw [if_pos q, if_pos q, m_in, Option.bind_some]
    dsimp only
    rw [b_if]
  · rw [if_neg q, if_neg q]
theorem sd_loop {y : Int32} (hB : TB b L) : ∀ (m n n2 i c : Nat) (S T : St) (k : Int32) (st e : Nat), i + m = 40 → c ≤ i → m + 1 ≤ n → m + 1 ≤ n2 → TR b L S T k st e → DR N S T → (k = 2 ∨ 0 < c) → It N b L S T e (f_P_readSand_L45 n y (nI i) S) (f_M_takesSand_L27 n2 (nI i) (nI c) T) := by
  intro m
  induction m with
  | zero =>
    intro n n2 i c S T k st e hi hc hn hn2 h hd hk
    obtain ⟨n, rfl⟩ : ∃ n', n = n' + 1 := ⟨n - 1, by omega⟩
    obtain ⟨n2, rfl⟩ : ∃ n', n2 = n' + 1 := ⟨n2 - 1, by omega⟩
    have h40 : (40 : Int32) ≤ nI i := nI_le (a := 40) (by omega) (by omega)
    rw [f_P_readSand_L45, f_M_takesSand_L27, if_pos h40, m_isNumber, Option.bind_some]
    dsimp only
    simp only [h.2.2.1, h.2.2.2.1]
    have e1 : (if nI c ≤ 0 then false else if k = 2 then false else true) = (if k = 2 then false else true) := by
      by_cases q : k = 2
      · rw [if_pos q]; split <;> rfl
      · rw [if_neg q]
        have : ¬ nI c ≤ 0 := nI_nle (by rcases hk with z | z; exact absurd z q; exact z) (by omega)
        rw [if_neg this]
    rw [e1, if_pos h40]
    refine It.stop h hd rfl ?_
    exact ite_self _
  | succ m ih =>
    intro n n2 i c S T k st e hi hc hn hn2 h hd hk
    obtain ⟨n, rfl⟩ : ∃ n', n = n' + 1 := ⟨n - 1, by omega⟩
    obtain ⟨n2, rfl⟩ : ∃ n', n2 = n' + 1 := ⟨n2 - 1, by omega⟩
    have h40 : ¬ (40 : Int32) ≤ nI i := nI_ge (b := 40) (by omega) (by decide)
    rw [f_P_readSand_L45, f_M_takesSand_L27, if_neg h40, m_isNumber, Option.bind_some]
    dsimp only
    simp only [h.2.2.1, h.2.2.2.1, if_neg h40]
    by_cases q : k = 2
    · have hv := h.2.2.2.2.2.2 q
      have hin := vr_in (lo := 0) (up := 99) hv (by decide) (by decide)
      simp only [if_pos q]
      rw [hin.1]
      by_cases q2 : S 34 5 ≤ 99
      · have ht : inB (S 34 5) 0 99 = true := inB_ok (vr_pos hv) q2
        have ex := hin.2 ht
        have hx := ixA (k := 12) (n := 92) (j := i) (by omega) (by omega) (by omega) (by omega)
        rw [show nI 12 = (12 : Int32) from rfl] at hx
        rw [if_pos q2, ht, if_neg (show ¬ bI true = 0 by decide), if_pos (inb_n (show i < 40 by omega) (by omega)), if_pos hx.1, hx.2, nI_clamp (by omega), ← ex, nI_1, nI_1]
        have hd2 : DR N (put S 17 i (S 34 5)) (put T 47 (12 + i) (S 34 5)) := hd.setF (by omega)
        have hs : ∀ c, c ≠ 17 → put S 17 i (S 34 5) c = S c := fun c hc => by rw [put_vu, vu_ne _ _ hc]
        have ht2 : ∀ c, c ≠ 47 → put T 47 (12 + i) (S 34 5) c = T c := fun c hc => by rw [put_vu, vu_ne _ _ hc]
        have h0 : TR0 b L (put S 17 i (S 34 5)) (put T 47 (12 + i) (S 34 5)) e := h.1.of (hs _ (by decide)) (hs _ (by decide)) (ht2 _ (by decide)) (ht2 _ (by decide))
        obtain ⟨S2, T2, k2, st2, e2, c1, c2, c3, c4, c5, c6, c7, c8, c9, -⟩ := pr_step hB h0 hd2
        rw [c1, c2, Option.bind_some, Option.bind_some]
        refine It.pre (FS.tr (fun c _ z _ _ _ => hs c z) c7) (FM.tr ⟨fun c _ z => ht2 c z, fun j _ => by rw [ht2 46 (by decide)]⟩ c8) c9 ?_
        exact ih n n2 (i + 1) (c + 1) S2 T2 k2 st2 e2 (by omega) (by omega) (by omega) (by omega) c3 c4 (Or.inr (by omega))
      · have hf : inB (S 34 5) 0 99 = false := inB_hi (Int32.not_le.mp q2)
        rw [if_neg q2, hf, if_pos (show bI false = 0 from rfl)]
        refine It.stop h hd rfl ?_
        split <;> rfl
    · simp only [if_neg q]
      have hc0 : ¬ nI c ≤ 0 := nI_nle (by rcases hk with z | z; exact absurd z q; exact z) (by omega)
      rw [if_pos (show bI false = 0 from rfl), if_neg hc0]
      exact It.stop h hd rfl rfl
theorem it_sand {e : Nat} (hB : TB b L) (h : TR0 b L S T e) (hd : DR N S T) : It N b L S T e (f_P_readSand S) (f_M_takesSand T) := by
  obtain ⟨S1, T1, k, st, e1, a1, a2, a3, a4, a5, a6, a7, a8, a9, -⟩ := pr_step hB h hd
  refine It.pre a7 a8 a9 ?_
  unfold f_P_readSand f_M_takesSand
  rw [a1, a2, Option.bind_some, Option.bind_some, m_isNumber, Option.bind_some]
  dsimp only
  rw [a3.2.2.1, a3.2.2.2.1]
  by_cases hk : k = 2
  · have hv := a3.2.2.2.2.2.2 hk
    have hi := vr_in (lo := 0) (up := 39) hv (by decide) (by decide)
    rw [if_pos hk, if_pos hk, l_isYard, Option.bind_some, hi.1, inB_yard]
    dsimp only
    by_cases hy : yardB (S1 34 5) = true
    · have ex := hi.2 ((inB_yard _).trans hy)
      obtain ⟨f, hf, ef⟩ := yard_n hy
      rw [hy, if_neg (show ¬ bI true = 0 by decide), if_neg (show ¬ bI true = 0 by decide), ← ex, ef]
      obtain ⟨S2, T2, k2, st2, e2, c1, c2, c3, c4, c5, c6, c7, c8, c9, -⟩ := pr_step hB a3.1 a4
      rw [c1, c2, Option.bind_some, Option.bind_some, c3.2.2.1]
      refine It.pre c7 c8 c9 ?_
      by_cases hk2 : k2 = 2
      · rw [if_pos hk2]
        have := sd_loop (N := N) (y := nI f) hB (40 - f) 200 200 f 0 S2 T2 k2 st2 e2 (by omega) (by omega) (by omega) (by omega) c3 c4 (Or.inl hk2)
        rw [nI_0] at this
        exact this
      · rw [if_neg hk2, f_M_takesSand_L27, m_isNumber, Option.bind_some]
        dsimp only
        simp only [c3.2.2.2.1, if_neg hk2, if_pos (show bI false = 0 from rfl), if_pos (show (0 : Int32) ≤ 0 by decide)]
        exact It.stop c3 c4 rfl rfl
    · have hy' : yardB (S1 34 5) = false := by simpa using hy
      rw [hy', if_pos (show bI false = 0 from rfl), if_pos (show bI false = 0 from rfl)]
      exact It.stop a3 a4 rfl rfl
  · rw [if_neg hk, if_neg hk, if_pos (show bI false = 0 from rfl)]
    exact It.stop a3 a4 rfl rfl
end ITEMS
