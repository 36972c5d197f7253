/-! ===== kinds in a text; an item of a text ===== -/
section TEXT1
variable {b : Nat → Int32} {L : Nat} {N : Int} {S T : St}
theorem DR.n (h : DR N S T) : T 47 11 = S 15 5 := by rw [h.2 11 (by omega)]; rfl
theorem DR.p (h : DR N S T) : ∃ p : Nat, p ≤ 20 ∧ S 15 5 = nI p := by
  have h1 := h.1.2.2.2.1
  exact nI_of2 (M := 20) (n := 20) rfl (by rw [i_lt, i0]; omega) (by rw [i_le, show (20 : Int32).toInt = 20 from rfl]; exact h1.2)
theorem room_n {q : Int32} : f_C_hasRoomFor q S = some ((if 20 < S 15 5 + q then false else true), S) := rfl
theorem ad_loop {x : Int32} (hx : 0 ≤ x.toInt ∧ x.toInt ≤ 7) (tot : Nat) (ht : tot ≤ 20) : ∀ (m n n2 i p : Nat) (S T : St), i + m = tot → m + 1 ≤ n → m + 1 ≤ n2 → p + m ≤ 20 → S 15 5 = nI p → DR N S T → ∃ S' T', f_C_addToPlan_L2 n x (nI tot) (nI i) S = some S' ∧ f_M_takesKind_L65 n2 x (nI tot) (nI i) T = some (true, T') ∧ DR N S' T' ∧ (∀ c, c ≠ 15 → c ≠ 21 → S' c = S c) ∧ (∀ c, c ≠ 47 → T' c = T c) := by
  intro m
  induction m with
  | zero =>
    intro n n2 i p S T hi hn hn2 hp h5 hd
    obtain ⟨n, rfl⟩ : ∃ n', n = n' + 1 := ⟨n - 1, by omega⟩
    obtain ⟨n2, rfl⟩ : ∃ n', n2 = n' + 1 := ⟨n2 - 1, by omega⟩
    have q : nI tot ≤ nI i := nI_le (by omega) (by omega)
    rw [f_C_addToPlan_L2, f_M_takesKind_L65, if_pos q, if_pos q]
    exact ⟨S, T, rfl, rfl, hd, fun _ _ _ => rfl, fun _ _ => rfl⟩
  | succ m ih =>
    intro n n2 i p S T hi hn hn2 hp h5 hd
    obtain ⟨n, rfl⟩ : ∃ n', n = n' + 1 := ⟨n - 1, by omega⟩
    obtain ⟨n2, rfl⟩ : ∃ n', n2 = n' + 1 := ⟨n2 - 1, by omega⟩
    have q1 : ¬ nI tot ≤ nI i := nI_ge (by omega) (by omega)
    have q2 : ¬ (20 : Int32) ≤ nI p := nI_ge (b := 20) (by omega) (by decide)
    have hx2 := ixA (k := 72) (n := 92) (j := p) (by omega) (by omega) (by omega) (by omega)
    rw [show nI 72 = (72 : Int32) from rfl] at hx2
    have e1 : put S 21 p x 15 5 = nI p := by rw [put_vu, vu_ne _ _ (by decide)]; exact h5
    have e2 : put T 47 (72 + p) x 47 11 = nI p := by rw [put_vu, vu_self, upd_app, if_neg (by omega)]; exact hd.n.trans h5
    have hd2 := hd.add (x := x) (show p < 20 by omega) h5 hx
    have e3 : put (put S 21 p x) 15 5 (nI (p + 1)) 15 5 = nI (p + 1) := by rw [put_vu, vu_self]; rfl
    obtain ⟨S', T', a1, a2, a3, a4, a5⟩ := ih n n2 (i + 1) (p + 1) _ _ (by omega) (by omega) (by omega) (by omega) e3 hd2
    rw [f_C_addToPlan_L2, f_M_takesKind_L65, if_neg q1, if_neg q1, hd.n, h5, if_neg q2, if_pos (inb_n (show p < 20 by omega) (by omega)), if_pos hx2.1]
    dsimp only
    rw [hx2.2, nI_clamp (by omega), e1, e2, nI_1, nI_1]
    refine ⟨S', T', a1, a2, a3, fun c h1 h2 => ?_, fun c h1 => ?_⟩
    · rw [a4 c h1 h2, put_vu, vu_ne _ _ h1, put_vu, vu_ne _ _ h2]
    · rw [a5 c h1, put_vu, vu_ne _ _ h1, put_vu, vu_ne _ _ h1]
theorem it_kind {x k : Int32} {st e : Nat} (hB : TB b L) (h : TR b L S T k st e) (hd : DR N S T) (hx : 0 ≤ x.toInt ∧ x.toInt ≤ 7) : It N b L S T e (f_P_readEfforts x S) (f_M_takesKind x T) := by
  obtain ⟨p, hp, h5⟩ := hd.p
  unfold f_P_readEfforts f_M_takesKind
  rw [room_n, Option.bind_some, h5, hd.n, h5]
  dsimp only
  by_cases hp20 : p = 20
  · subst hp20
    have e1 : (20 : Int32) < nI 20 + 1 := by decide
    have e2 : nI 20 = (20 : Int32) := rfl
    rw [if_pos e1, if_pos (show bI false = 0 from rfl), if_pos e2]
    exact It.stop h hd rfl rfl
  · have e1 : ¬ (20 : Int32) < nI p + 1 := by rw [nI_1]; exact nI_nlt (a := 20) (by omega) (by omega)
    have e2 : ¬ nI p = (20 : Int32) := fun z => hp20 ((nI_eq (b := 20) (by omega) (by decide)).mp z)
    obtain ⟨S1, T1, k1, st1, ea, a1, a2, a3, a4, a5, a6, a7, a8, a9, -⟩ := pr_step hB h.1 hd
    have h5a : S1 15 5 = nI p := by rw [a5 15 (by decide)]; exact h5
    rw [if_neg e1, if_neg (show ¬ bI true = 0 by decide), if_neg e2, a1, a2, Option.bind_some, Option.bind_some, a3.2.2.1, a3.2.2.2.1]
    refine It.pre a7 a8 a9 ?_
    by_cases hk : k1 = 2
    · have hv := a3.2.2.2.2.2.2 hk
      have hin := vr_in (lo := 1) (up := 9) hv (by decide) (by decide)
      rw [if_pos hk, if_pos hk, m_in, Option.bind_some, hin.1]
      dsimp only
      by_cases q1 : S1 34 5 < 1
      · rw [if_pos q1, inB_lo q1, if_pos (show bI false = 0 from rfl)]
        exact It.stop a3 a4 rfl rfl
      · rw [if_neg q1]
        by_cases q2 : 9 < S1 34 5
        · rw [if_pos q2, inB_hi q2, if_pos (show bI false = 0 from rfl)]
          exact It.stop a3 a4 rfl rfl
        · have ht : inB (S1 34 5) 1 9 = true := inB_iff.mpr ⟨q1, q2⟩
          have ex := hin.2 ht
          obtain ⟨v, hv9, ev⟩ : ∃ v : Nat, v ≤ 9 ∧ S1 34 5 = nI v := nI_of2 (M := 9) rfl (vr_pos hv) (Int32.not_lt.mp q2)
          rw [if_neg q2, ht, if_neg (show ¬ bI true = 0 by decide), room_n, Option.bind_some, ← ex, ev]
          dsimp only
          simp only [a4.n, h5a, nI_add]
          by_cases q3 : p + v ≤ 20
          · have e3 : ¬ (20 : Int32) < nI (p + v) := nI_nlt (a := 20) q3 (by decide)
            have e4 : nI (p + v) ≤ (20 : Int32) := nI_le (b := 20) q3 (by decide)
            rw [if_neg e3, if_neg (show ¬ bI true = 0 by decide), if_pos e4]
            obtain ⟨S2, T2, k2, st2, eb, c1, c2, c3, c4, c5, c6, c7, c8, c9, -⟩ := pr_step hB a3.1 a4
            have h5b : S2 15 5 = nI p := by rw [c5 15 (by decide)]; exact h5a
            obtain ⟨S3, T3, d1, d2, d3, d4, d5⟩ := ad_loop (N := N) hx v (by omega) v 200 200 0 p S2 T2 (by omega) (by omega) (by omega) q3 h5b c4
            rw [nI_0] at d1 d2
            rw [c1, c2, Option.bind_some, Option.bind_some]
            unfold f_C_addToPlan
            rw [d1, Option.bind_some, d2]
            exact ⟨true, S3, T3, k2, st2, eb, rfl, rfl, c3.of (d4 _ (by decide) (by decide)) (d4 _ (by decide) (by decide)) (d5 _ (by decide)) (d5 _ (by decide)), d3, c7.tr (fun c z1 _ _ z4 _ => d4 c z1 z4), c8.tr ⟨fun c _ z => d5 c z, fun j _ => by rw [d5 46 (by decide)]⟩, c9⟩
          · have e3 : (20 : Int32) < nI (p + v) := nI_lt (a := 20) (by omega) (by omega)
            have e4 : ¬ nI (p + v) ≤ (20 : Int32) := nI_ge (a := 20) (by omega) (by omega)
            rw [if_pos e3, if_pos (show bI false = 0 from rfl), if_neg e4]
            exact It.stop a3 a4 rfl rfl
    · rw [if_neg hk, if_neg hk]
      obtain ⟨S3, T3, d1, d2, d3, d4, d5⟩ := ad_loop (N := N) hx 1 (by omega) 1 200 200 0 p S1 T1 (by omega) (by omega) (by omega) (by omega) h5a a4
      rw [nI_0, show nI 1 = (1 : Int32) from rfl] at d1 d2
      unfold f_C_addToPlan
      rw [d1, Option.bind_some, d2]
      exact ⟨true, S3, T3, k1, st1, ea, rfl, rfl, a3.of (d4 _ (by decide) (by decide)) (d4 _ (by decide) (by decide)) (d5 _ (by decide)) (d5 _ (by decide)), d3, fun c z1 _ _ z4 _ => d4 c z1 z4, ⟨fun c _ z => d5 c z, fun j _ => by rw [d5 46 (by decide)]⟩, Nat.le_refl _⟩
theorem bd_id {α : Type} (x : Option (α × St)) : (x.bind fun q => some (q.1, q.2)) = x := by cases x <;> rfl
theorem bd_b (x : Option (Bool × St)) : (x.bind fun q => some ((if bI q.1 = 0 then false else true), q.2)) = x := by
  cases x with
  | none => rfl
  | some q => obtain ⟨c, t⟩ := q; cases c <;> rfl
theorem bIf : (bI false = 0) = True := eq_true rfl
theorem bIt : (bI true = 0) = False := eq_false (by decide)
theorem i61 : ((6 : Int32) = -1) = False := eq_false (by decide)
theorem i71 : ((7 : Int32) = -1) = False := eq_false (by decide)
/-- the model's item, word by word -/
def tk0 (w : Nat) (v : Int32) (rest : St → Option (Bool × St)) (T : St) : Option (Bool × St) := (f_M_isWord w T).bind fun q => (if bI q.1 = 0 then rest q.2 else ((f_M_takesKind v q.2).bind fun p => some ((if bI p.1 = 0 then false else true), p.2)))
def ts0 (w : Nat) (v : Int32) (rest : St → Option (Bool × St)) (T : St) : Option (Bool × St) := (f_M_isWord w T).bind fun q => (if bI q.1 = 0 then rest q.2 else ((f_M_takesSet v q.2).bind fun p => some (p.1, p.2)))
def tk7 (T : St) : Option (Bool × St) := (f_M_isWord 7 T).bind fun q => (if (if bI q.1 = 0 then (-1 : Int32) else 7) = -1 then some (false, q.2) else ((f_M_takesKind (if bI q.1 = 0 then (-1 : Int32) else 7) q.2).bind fun p => some ((if bI p.1 = 0 then false else true), p.2)))
def tkA0 : St → Option (Bool × St) := tk0 0 0 (tk0 1 1 (tk0 2 2 (tk0 3 3 (tk0 4 4 (tk0 5 5 (tk0 6 6 tk7))))))
def ts13 (T : St) : Option (Bool × St) := (f_M_isWord 13 T).bind fun q => (if (if bI q.1 = 0 then (-1 : Int32) else 6) = -1 then tkA0 q.2 else ((f_M_takesSet (if bI q.1 = 0 then (-1 : Int32) else 6) q.2).bind fun p => some (p.1, p.2)))
def tsA0 : St → Option (Bool × St) := ts0 9 2 (ts0 10 3 (ts0 11 4 (ts0 12 5 ts13)))
set_option maxRecDepth 20000 in
theorem m_item_e : f_M_takesItem T = (f_M_isWord 8 T).bind fun q => (if bI q.1 = 0 then tsA0 q.2 else ((f_M_takesSand q.2).bind fun p => some (p.1, p.2))) := rfl
theorem tk0_f {w : Nat} {v : Int32} {rest : St → Option (Bool × St)} (h : f_M_isWord w T = some (false, T)) : tk0 w v rest T = rest T := by
  unfold tk0
  rw [h, Option.bind_some]
  dsimp only
  rw [if_pos (show bI false = 0 from rfl)]
theorem tk0_t {w : Nat} {v : Int32} {rest : St → Option (Bool × St)} (h : f_M_isWord w T = some (true, T)) : tk0 w v rest T = f_M_takesKind v T := by
  unfold tk0
  rw [h, Option.bind_some]
  dsimp only
  rw [if_neg (show ¬ bI true = 0 by decide), bd_b]
theorem ts0_f {w : Nat} {v : Int32} {rest : St → Option (Bool × St)} (h : f_M_isWord w T = some (false, T)) : ts0 w v rest T = rest T := by
  unfold ts0
  rw [h, Option.bind_some]
  dsimp only
  rw [if_pos (show bI false = 0 from rfl)]
theorem ts0_t {w : Nat} {v : Int32} {rest : St → Option (Bool × St)} (h : f_M_isWord w T = some (true, T)) : ts0 w v rest T = f_M_takesSet v T := by
  unfold ts0
  rw [h, Option.bind_some]
  dsimp only
  rw [if_neg (show ¬ bI true = 0 by decide), bd_id]
theorem tk7_f (h : f_M_isWord 7 T = some (false, T)) : tk7 T = some (false, T) := by
  unfold tk7
  rw [h, Option.bind_some]
  dsimp only
  rw [if_pos (show bI false = 0 from rfl), if_pos rfl]
theorem tk7_t (h : f_M_isWord 7 T = some (true, T)) : tk7 T = f_M_takesKind 7 T := by
  unfold tk7
  rw [h, Option.bind_some]
  dsimp only
  rw [if_neg (show ¬ bI true = 0 by decide), if_neg (show ¬ (7 : Int32) = -1 by decide), bd_b]
theorem ts13_f (h : f_M_isWord 13 T = some (false, T)) : ts13 T = tkA0 T := by
  unfold ts13
  rw [h, Option.bind_some]
  dsimp only
  rw [if_pos (show bI false = 0 from rfl), if_pos rfl]
theorem ts13_t (h : f_M_isWord 13 T = some (true, T)) : ts13 T = f_M_takesSet 6 T := by
  unfold ts13
  rw [h, Option.bind_some]
  dsimp only
  rw [if_neg (show ¬ bI true = 0 by decide), if_neg (show ¬ (6 : Int32) = -1 by decide), bd_id]
theorem m_item_8 (h : f_M_isWord 8 T = some (false, T)) : f_M_takesItem T = tsA0 T := by
  rw [m_item_e, h, Option.bind_some]
  dsimp only
  rw [if_pos (show bI false = 0 from rfl)]
/-- the model's item, where no word stands -/
theorem m_item_no (h : ∀ v, v < 14 → f_M_isWord v T = some (false, T)) : f_M_takesItem T = some (false, T) := by
  rw [m_item_8 (h 8 (by decide))]
  unfold tsA0
  rw [ts0_f (h 9 (by decide)), ts0_f (h 10 (by decide)), ts0_f (h 11 (by decide)), ts0_f (h 12 (by decide)), ts13_f (h 13 (by decide))]
  unfold tkA0
  rw [tk0_f (h 0 (by decide)), tk0_f (h 1 (by decide)), tk0_f (h 2 (by decide)), tk0_f (h 3 (by decide)), tk0_f (h 4 (by decide)), tk0_f (h 5 (by decide)), tk0_f (h 6 (by decide)), tk7_f (h 7 (by decide))]
theorem m_item_k {w : Nat} (hw : w < 8) (h : ∀ v, v < 14 → v ≠ w → f_M_isWord v T = some (false, T)) (h2 : f_M_isWord w T = some (true, T)) : f_M_takesItem T = f_M_takesKind (nI w) T := by
  rw [m_item_8 (h 8 (by decide) (by omega))]
  unfold tsA0
  rw [ts0_f (h 9 (by decide) (by omega)), ts0_f (h 10 (by decide) (by omega)), ts0_f (h 11 (by decide) (by omega)), ts0_f (h 12 (by decide) (by omega)), ts13_f (h 13 (by decide) (by omega))]
  unfold tkA0
  rcases (show w = 0 ∨ w = 1 ∨ w = 2 ∨ w = 3 ∨ w = 4 ∨ w = 5 ∨ w = 6 ∨ w = 7 by omega) with rfl | rfl | rfl | rfl | rfl | rfl | rfl | rfl
  · rw [tk0_t h2]
    rfl
  · rw [tk0_f (h 0 (by decide) (by decide)), tk0_t h2]
    rfl
  · rw [tk0_f (h 0 (by decide) (by decide)), tk0_f (h 1 (by decide) (by decide)), tk0_t h2]
    rfl
  · rw [tk0_f (h 0 (by decide) (by decide)), tk0_f (h 1 (by decide) (by decide)), tk0_f (h 2 (by decide) (by decide)), tk0_t h2]
    rfl
  · rw [tk0_f (h 0 (by decide) (by decide)), tk0_f (h 1 (by decide) (by decide)), tk0_f (h 2 (by decide) (by decide)), tk0_f (h 3 (by decide) (by decide)), tk0_t h2]
    rfl
  · rw [tk0_f (h 0 (by decide) (by decide)), tk0_f (h 1 (by decide) (by decide)), tk0_f (h 2 (by decide) (by decide)), tk0_f (h 3 (by decide) (by decide)), tk0_f (h 4 (by decide) (by decide)), tk0_t h2]
    rfl
  · rw [tk0_f (h 0 (by decide) (by decide)), tk0_f (h 1 (by decide) (by decide)), tk0_f (h 2 (by decide) (by decide)), tk0_f (h 3 (by decide) (by decide)), tk0_f (h 4 (by decide) (by decide)), tk0_f (h 5 (by decide) (by decide)), tk0_t h2]
    rfl
  · rw [tk0_f (h 0 (by decide) (by decide)), tk0_f (h 1 (by decide) (by decide)), tk0_f (h 2 (by decide) (by decide)), tk0_f (h 3 (by decide) (by decide)), tk0_f (h 4 (by decide) (by decide)), tk0_f (h 5 (by decide) (by decide)), tk0_f (h 6 (by decide) (by decide)), tk7_t h2]
    rfl
theorem m_item_s (h2 : f_M_isWord 8 T = some (true, T)) : f_M_takesItem T = f_M_takesSand T := by
  rw [m_item_e, h2, Option.bind_some]
  dsimp only
  rw [if_neg (show ¬ bI true = 0 by decide), bd_id]
theorem m_item_n {w : Nat} (h9 : 9 ≤ w) (hw : w < 14) (h : ∀ v, v < 14 → v ≠ w → f_M_isWord v T = some (false, T)) (h2 : f_M_isWord w T = some (true, T)) : f_M_takesItem T = f_M_takesSet (nI (w - 7)) T := by
  rw [m_item_8 (h 8 (by decide) (by omega))]
  unfold tsA0
  rcases (show w = 9 ∨ w = 10 ∨ w = 11 ∨ w = 12 ∨ w = 13 by omega) with rfl | rfl | rfl | rfl | rfl
  · rw [ts0_t h2]
    rfl
  · rw [ts0_f (h 9 (by decide) (by decide)), ts0_t h2]
    rfl
  · rw [ts0_f (h 9 (by decide) (by decide)), ts0_f (h 10 (by decide) (by decide)), ts0_t h2]
    rfl
  · rw [ts0_f (h 9 (by decide) (by decide)), ts0_f (h 10 (by decide) (by decide)), ts0_f (h 11 (by decide) (by decide)), ts0_t h2]
    rfl
  · rw [ts0_f (h 9 (by decide) (by decide)), ts0_f (h 10 (by decide) (by decide)), ts0_f (h 11 (by decide) (by decide)), ts0_f (h 12 (by decide) (by decide)), ts13_t h2]
    rfl
/-- no word: no item on either side -/
theorem it_no {k : Int32} {st e : Nat} (h : TR b L S T k st e) (hk : ¬ k = 1) : f_P_readItem S = some (false, S) ∧ f_M_takesItem T = some (false, T) := by
  refine ⟨?_, m_item_no (fun v _ => m_isWordN (by rw [h.2.2.2.1]; exact hk))⟩
  unfold f_P_readItem
  rw [h.2.2.1, if_neg hk]
theorem it_item {k : Int32} {st e : Nat} (hB : TB b L) (h : TR b L S T k st e) (hd : DR N S T) : It N b L S T e (f_P_readItem S) (f_M_takesItem T) := by
  by_cases hk : k = 1
  · subst hk
    by_cases hw : ∃ w, w < 14 ∧ wd b st e w = true
    · obtain ⟨w, hw, hwt⟩ := hw
      have hr : f_P_wordRead S = some (nI w, S) := by rw [s_wordRead hB h, wr_hit hw hwt 14 0 rfl (Nat.zero_le _)]
      have h2 : f_M_isWord w T = some (true, T) := by rw [m_isWord hB h hw, hwt]
      have hm : ∀ v, v < 14 → v ≠ w → f_M_isWord v T = some (false, T) := by
        intro v hv hne
        rw [m_isWord hB h hv]
        cases q : wd b st e v with
        | false => rfl
        | true => exact absurd (wd_inj hv hw q hwt) hne
      have p0 : (0 : Int32) ≤ nI w := nI_pos' (by omega)
      by_cases w8 : w < 8
      · have cl : f_P_readItem S = f_P_readEfforts (nI w) S := by
          have n8 : ¬ (8 : Int32) ≤ nI w := nI_ge (b := 8) w8 (by decide)
          unfold f_P_readItem
          rw [h.2.2.1, if_pos rfl, hr, Option.bind_some]
          dsimp only
          rw [if_pos p0, if_neg n8, bd_id]
        rw [cl, m_item_k w8 hm h2]
        exact it_kind hB h hd (by rw [nI_toInt (by omega)]; omega)
      · have n8 : (8 : Int32) ≤ nI w := nI_le (a := 8) (by omega) (by omega)
        by_cases e8 : w = 8
        · subst e8
          have cl : f_P_readItem S = f_P_readSand S := by
            unfold f_P_readItem
            rw [h.2.2.1, if_pos rfl, hr, Option.bind_some]
            dsimp only
            rw [if_pos p0, if_pos n8, if_pos (show nI 8 = (8 : Int32) from rfl), bd_id]
          rw [cl, m_item_s h2]
          exact it_sand hB h.1 hd
        · have cl : f_P_readItem S = f_P_readNumber (nI (w - 7)) S := by
            have ne8 : ¬ nI w = (8 : Int32) := fun z => e8 ((nI_eq (b := 8) (by omega) (by decide)).mp z)
            have e7 : nI w - 8 + 1 = nI (w - 7) := by
              have := nI_sub (a := 8) (c := w) (by omega)
              rw [show nI 8 = (8 : Int32) from rfl] at this
              rw [this, nI_1]
              congr 1
              omega
            unfold f_P_readItem
            rw [h.2.2.1, if_pos rfl, hr, Option.bind_some]
            dsimp only
            rw [if_pos p0, if_pos n8, if_neg ne8, bd_id, e7]
          rw [cl, m_item_n (by omega) hw hm h2]
          exact it_num hB h.1 hd (by omega) (by omega)
    · have hn : ∀ v, v < 14 → wd b st e v = false := by
        intro v hv
        cases q : wd b st e v with
        | false => rfl
        | true => exact absurd ⟨v, hv, q⟩ hw
      have hr : f_P_wordRead S = some (-1, S) := by rw [s_wordRead hB h, wr_none hn 14 0 rfl]
      refine It.stop h hd (ok := false) ?_ (m_item_no (fun v hv => by rw [m_isWord hB h hv, hn v hv]))
      unfold f_P_readItem
      rw [h.2.2.1, if_pos rfl, hr, Option.bind_some]
      dsimp only
      rw [if_neg (show ¬ (0 : Int32) ≤ -1 by decide)]
  · obtain ⟨q1, q2⟩ := it_no h hk
    exact It.stop h hd q1 q2
end TEXT1
