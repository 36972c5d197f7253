/-! ===== a whole text ===== -/
section TEXT2
variable {b : Nat → Int32} {L : Nat} {N : Int} {S T : St}
/-- the model: a token, an item, and on -/
def tkA (n2 : Nat) (T : St) : Option (Bool × St) := (f_M_next T).bind fun q2 => ((f_M_takesItem q2).bind fun q3 => (if (bI q3.1) = 0 then some (false, q3.2) else f_M_takesAll_L18 n2 q3.2))
theorem tA_s {n2 : Nat} : f_M_takesAll_L18 (n2 + 1) T = (if T 46 8 = 3 then tkA n2 T else some ((if T 46 8 = 0 then true else false), T)) := by rw [f_M_takesAll_L18]; rfl
theorem tA_0 : f_M_takesAll T = tkA 200 (put T 46 7 0) := rfl
theorem ri_s {n : Nat} {y : Int32} : f_P_readInto_L7 (n + 1) y S = (if 120 < y then some ((S 34 3), S) else ((f_P_step S).bind fun q3 => ((f_P_readItem q3).bind fun q4 => (if (bI q4.1) = 0 then some ((q4.2 34 3), q4.2) else (if (q4.2 34 2) = 0 then some ((-1), q4.2) else (if (q4.2 34 2) = 3 then f_P_readInto_L7 n (y + 1) q4.2 else some ((q4.2 34 3), q4.2))))))) := by rw [f_P_readInto_L7]
/-- how a text ends -/
def Rd (N : Int) (S T : St) (fs : Option (Int32 × St)) (fm : Option (Bool × St)) : Prop := ∃ r ok S' T', fs = some (r, S') ∧ fm = some (ok, T') ∧ DR N S' T' ∧ FS S S' ∧ FM T T' ∧ (ok = true → r = -1) ∧ (ok = false → ∃ st : Nat, st ≤ 120 ∧ r = nI st ∧ T' 46 9 = nI st)
theorem Rd.pre {S1 T1 : St} {fs : Option (Int32 × St)} {fm : Option (Bool × St)} (h1 : FS S S1) (h2 : FM T T1) (h : Rd N S1 T1 fs fm) : Rd N S T fs fm := by
  obtain ⟨r, ok, S', T', a1, a2, a3, a4, a5, a6, a7⟩ := h
  exact ⟨r, ok, S', T', a1, a2, a3, h1.tr a4, h2.tr a5, a6, a7⟩
theorem Rd.no {k : Int32} {st e : Nat} (hB : TB b L) (h : TR b L S T k st e) (hd : DR N S T) : Rd N S T (some (S 34 3, S)) (some (false, T)) := by
  refine ⟨S 34 3, false, S, T, rfl, rfl, hd, FS.rf, FM.rf, fun z => (by cases z), fun _ => ⟨st, ?_, h.2.2.2.2.1, h.2.2.2.2.2.1⟩⟩
  have h1 := h.1.2.2.2.2.2.2
  have h2 := h.2.1
  have h3 := hB.1
  omega
theorem rd_loop (hB : TB b L) : ∀ (m n n2 i : Nat) (S T : St) (e : Nat), L + 1 ≤ e + m → i ≤ e → m ≤ n → m ≤ n2 → TR0 b L S T e → DR N S T → Rd N S T (f_P_readInto_L7 n (nI i) S) (tkA n2 T) := by
  intro m
  induction m with
  | zero =>
    intro n n2 i S T e h1 hi hn hn2 h hd
    have := h.2.2.2.2.2.2
    omega
  | succ m ih =>
    intro n n2 i S T e h1 hi hn hn2 h hd
    have heL := h.2.2.2.2.2.2
    have hL := hB.1
    obtain ⟨n, rfl⟩ : ∃ n', n = n' + 1 := ⟨n - 1, by omega⟩
    obtain ⟨n2, rfl⟩ : ∃ n', n2 = n' + 1 := ⟨n2 - 1, by omega⟩
    have h120 : ¬ (120 : Int32) < nI i := nI_nlt (a := 120) (by omega) (by omega)
    obtain ⟨S1, T1, k, st, ea, a1, a2, a3, a4, a5, a6, a7, a8, a9, a10⟩ := pr_step hB h hd
    rw [ri_s, if_neg h120, a1, Option.bind_some]
    unfold tkA
    rw [a2, Option.bind_some]
    refine Rd.pre a7 a8 ?_
    by_cases hk : k = 1
    · obtain ⟨ok, S2, T2, k2, st2, eb, c1, c2, c3, c4, c5, c6, c7⟩ := it_item hB a3 a4
      rw [c1, c2, Option.bind_some, Option.bind_some]
      dsimp only
      refine Rd.pre c5 c6 ?_
      cases ok with
      | false =>
        rw [if_pos (show bI false = 0 from rfl), if_pos (show bI false = 0 from rfl)]
        exact Rd.no hB c3 c4
      | true =>
        rw [if_neg (show ¬ bI true = 0 by decide), if_neg (show ¬ bI true = 0 by decide), tA_s]
        simp only [c3.2.2.1, c3.2.2.2.1]
        by_cases k0 : k2 = 0
        · rw [if_pos k0, if_neg (show ¬ k2 = 3 by rw [k0]; decide), if_pos k0]
          exact ⟨-1, true, S2, T2, rfl, rfl, c4, FS.rf, FM.rf, fun _ => rfl, fun z => (by cases z)⟩
        · rw [if_neg k0, if_neg k0]
          by_cases k3 : k2 = 3
          · rw [if_pos k3, if_pos k3, nI_1]
            have hlt : e < ea := a10 (by rw [hk]; decide)
            exact ih n n2 (i + 1) S2 T2 eb (by omega) (by omega) (by omega) (by omega) c3.1 c4
          · rw [if_neg k3, if_neg k3]
            exact Rd.no hB c3 c4
    · obtain ⟨q1, q2⟩ := it_no a3 hk
      rw [q1, q2, Option.bind_some, Option.bind_some]
      dsimp only
      rw [if_pos (show bI false = 0 from rfl), if_pos (show bI false = 0 from rfl)]
      exact Rd.no hB a3 a4
theorem DR.copy (h : I_sc N S) (hcp : Cp S T 1 15) {V : St} (hV : ∀ i, i < 92 → V 47 i = S 47 i) : DR N T V := by
  obtain ⟨c1, c2, c3, c4, c5, c6, c7⟩ := hcp
  refine ⟨h.1.cg c1 c4 c5 c6 c7, fun i hi => ?_⟩
  rw [hV i hi, h.2 i hi]
  exact pkF_cg c2 c1 c4 c3 c5 c6 c7 i hi
/-- the class's text, as far as the model's follows it -/
theorem tx_run (h : Inv N S) {V : St} (hV : ∀ c, c = 46 ∨ c = 47 ∨ c = 51 → V c = S c) : Rd N (put (becS S 15 1) 34 4 0) (put (bgM V) 46 7 0) (f_P_readInto (becS S 15 1)) (f_M_takesAll (bgM V)) := by
  obtain ⟨t1, ⟨t2, t3⟩, t4⟩ := h.2.2.2.1
  obtain ⟨L, hL, eL⟩ : ∃ L : Nat, L ≤ 120 ∧ S 34 1 = nI L := nI_of2 (M := 120) rfl (by rw [i_lt, i0]; omega) (by rw [i_le, show (120 : Int32).toInt = 120 from rfl]; exact t3)
  rw [eL, nI_toInt (by omega)] at t4
  have hB : TB (S 35) L := ⟨hL, fun i hi => (t4 i (by omega)).2.1⟩
  have eB : ∀ c, c < 15 ∨ c = 16 ∨ 21 < c → becS S 15 1 c = S c := fun c hc => becS_ne (by omega)
  have hcp : Cp S (put (becS S 15 1) 34 4 0) 1 15 := by
    have q : ∀ c, c ≠ 34 → put (becS S 15 1) 34 4 0 c = becS S 15 1 c := fun c hc => by rw [put_vu, vu_ne _ _ hc]
    have hc := becS_cp (S := S) (t := 15) (f := 1)
    unfold Cp at hc ⊢
    rw [q 15 (by decide), q (15 + 2) (by decide), q (15 + 3) (by decide), q (15 + 4) (by decide), q (15 + 5) (by decide), q (15 + 6) (by decide)]
    exact hc
  have u47 : put (bgM V) 46 7 0 47 = S 47 := by rw [put_vu, vu_ne _ _ (by decide), bgM_47]; exact hV 47 (by omega)
  have hd : DR N (put (becS S 15 1) 34 4 0) (put (bgM V) 46 7 0) := DR.copy h.1 hcp (fun i _ => by rw [u47])
  have h0 : TR0 (S 35) L (put (becS S 15 1) 34 4 0) (put (bgM V) 46 7 0) 0 := by
    refine ⟨?_, ?_, ?_, ?_, ?_, ?_, Nat.zero_le _⟩
    · rw [put_vu, vu_self]
      show becS S 15 1 34 1 = nI L
      rw [eB 34 (by omega)]; exact eL
    · rw [put_vu, vu_ne _ _ (by decide)]; exact eB 35 (by omega)
    · rw [put_vu, vu_self]
      show bgM V 46 6 = nI L
      rw [bgM_ne (by decide), hV 46 (by omega), t1]; exact eL
    · intro i hi
      rw [put_vu, vu_ne _ _ (by decide), bgM_ne (by decide), hV 51 (by omega)]
      exact (t4 i (by omega)).1
    · rw [put_vu, vu_self]; rfl
    · rw [put_vu, vu_self]; rfl
  have := rd_loop (N := N) hB 121 200 200 0 _ _ 0 (by omega) (by omega) (by omega) (by omega) h0 hd
  rw [nI_0] at this
  rw [tA_0]
  exact this
theorem I_tp.none (h1 : T 34 1 = 0) (h6 : T 46 6 = 0) : I_tp T := by
  refine ⟨by rw [h1, h6], ⟨by rw [h1]; decide, by rw [h1]; decide⟩, fun i hi => ?_⟩
  rw [h1, i0] at hi
  omega
theorem p_text : Step2 N f_S_text f_M_text := by
  intro S h
  obtain ⟨r, ok, S', T0, a1, a2, a3, a4, a5, a6, a7⟩ := tx_run h (V := S) (fun _ _ => rfl)
  have eB : ∀ c, c < 15 ∨ c = 16 ∨ 21 < c → becS S 15 1 c = S c := fun c hc => becS_ne (by omega)
  have eS' : ∀ c, c < 15 ∨ (21 < c ∧ c ≠ 34) → S' c = S c := by
    intro c hc
    rw [a4 c (by omega) (by omega) (by omega) (by omega) (by omega), put_vu, vu_ne _ _ (by omega), eB c (by omega)]
  have hfs : ∀ (R : Int32 × St), (let S3 := put S' 34 1 0; (if r < 0 then ((f_C_become_1_15 S3).bind fun q5 => some ((q5 1 5), q5)) else some (((-1) - r), S3))) = some R → f_S_text S = some R := by
    intro R hR
    unfold f_S_text
    rw [bec_15_1, Option.bind_some, a1, Option.bind_some]
    exact hR
  have h28 := h.up28
  cases ok with
  | true =>
    have hr := a6 rfl
    have hcp := becS_cp (S := put S' 34 1 0) (t := 1) (f := 15)
    generalize hB : becS (put S' 34 1 0) 1 15 = B at hcp
    have hBn : ∀ c, c < 1 ∨ c = 2 ∨ 7 < c → B c = put S' 34 1 0 c := fun c hc => by rw [← hB]; exact becS_ne (by omega)
    have hBS : ∀ c, (c < 1 ∨ c = 2 ∨ (7 < c ∧ c < 15) ∨ (21 < c ∧ c ≠ 34)) → B c = S c := fun c hc => by
      rw [hBn c (by omega), put_vu, vu_ne _ _ (by omega), eS' c (by omega)]
    obtain ⟨r2, ok2, S2, T2, d1, d2, d3, d4, d5, d6, d7⟩ := tx_run h (V := B) (fun c hc => hBS c (by omega))
    rw [a1] at d1
    have e1 : r = r2 := congrArg Prod.fst (Option.some.inj d1)
    have e2 : S' = S2 := congrArg Prod.snd (Option.some.inj d1)
    subst e1
    subst e2
    have hok : ok2 = true := by
      cases ok2 with
      | true => rfl
      | false =>
        obtain ⟨st, q1, q2, -⟩ := d7 rfl
        have : (nI st).toInt = (-1 : Int32).toInt := by rw [← q2, hr]
        rw [nI_toInt (by omega), show (-1 : Int32).toInt = -1 from rfl] at this
        omega
    subst hok
    have eT : ∀ c, c ≠ 46 → c ≠ 47 → c ≠ 49 → T2 c = B c := fun c z1 z2 z3 => by
      rw [d5.1 c z1 z2, put_vu, vu_ne _ _ z1, bgM_ne z3]
    have eT6 : ∀ j, j < 7 → T2 46 j = S 46 j := fun j hj => by
      rw [d5.2 j hj, put_vu, vu_self, upd_app, if_neg (by omega), bgM_ne (by decide), hBS 46 (by omega)]
    obtain ⟨c1, c2, c3, c4, c5, c6, c7⟩ := hcp
    have p15 : ∀ c, c ≠ 34 → put S' 34 1 0 c = S' c := fun c hc => by rw [put_vu, vu_ne _ _ hc]
    rw [p15 15 (by decide)] at c1 c2
    rw [p15 (15 + 2) (by decide)] at c3
    rw [p15 (15 + 3) (by decide)] at c4
    rw [p15 (15 + 4) (by decide)] at c5
    rw [p15 (15 + 5) (by decide)] at c6
    rw [p15 (15 + 6) (by decide)] at c7
    refine ⟨B 1 5, B, put T2 46 6 0, hfs _ ?_, ?_, ?_⟩
    · dsimp only
      rw [if_pos (show r < 0 by rw [hr]; decide), bec_1_15, Option.bind_some, hB]
    · unfold f_M_text
      rw [m_bg, Option.bind_some, d2, Option.bind_some]
      dsimp only
      rw [if_neg (show ¬ bI true = 0 by decide)]
      have : put T2 46 6 0 47 11 = B 1 5 := by
        rw [put_vu, vu_ne _ _ (by decide), d3.n, c1]
      rw [this]
    · generalize hW : put T2 46 6 0 = W
      have w0 : ∀ c, c ≠ 46 → W c = T2 c := fun c hc => by rw [← hW, put_vu, vu_ne _ _ hc]
      have w1 : ∀ c, c ≠ 46 → c ≠ 47 → c ≠ 49 → W c = B c := fun c z1 z2 z3 => (w0 c z1).trans (eT c z1 z2 z3)
      have w2 : ∀ c, (c < 1 ∨ c = 2 ∨ (7 < c ∧ c < 15) ∨ (21 < c ∧ c ≠ 34)) → c ≠ 46 → c ≠ 47 → c ≠ 49 → W c = S c := fun c z z1 z2 z3 => (w1 c z1 z2 z3).trans (hBS c z)
      have w46 : ∀ j, j < 6 → W 46 j = S 46 j := fun j hj => by
        rw [← hW, put_vu, vu_self, upd_app, if_neg (by omega)]
        exact eT6 j (by omega)
      refine ⟨?_, h28.2.1.of (w2 _ (by omega) (by omega) (by omega) (by omega)) (w46 3 (by omega)) (w2 _ (by omega) (by omega) (by omega) (by omega)) (w2 _ (by omega) (by omega) (by omega) (by omega)) (w2 _ (by omega) (by omega) (by omega) (by omega)) (w2 _ (by omega) (by omega) (by omega) (by omega)) (w2 _ (by omega) (by omega) (by omega) (by omega)) (w2 _ (by omega) (by omega) (by omega) (by omega)) (w2 _ (by omega) (by omega) (by omega) (by omega)),
        h28.2.2.1.of (w2 _ (by omega) (by omega) (by omega) (by omega)) (w2 _ (by omega) (by omega) (by omega) (by omega)), I_tp.none ?_ ?_,
        h28.2.2.2.2.of (fun c h1 h2 => w2 c (by omega) (by omega) (by omega) (by omega)) (w2 _ (by omega) (by omega) (by omega) (by omega)) (w2 _ (by omega) (by omega) (by omega) (by omega)) (w2 _ (by omega) (by omega) (by omega) (by omega))⟩
      · unfold I_sc
        rw [w1 1 (by omega) (by omega) (by omega), w1 3 (by omega) (by omega) (by omega), w1 4 (by omega) (by omega) (by omega), w1 5 (by omega) (by omega) (by omega), w1 6 (by omega) (by omega) (by omega), w1 7 (by omega) (by omega) (by omega), w0 47 (by omega)]
        refine ⟨(d3.1.le (by omega)).cg c1 c4 c5 c6 c7, fun i hi => ?_⟩
        rw [d3.2 i hi]
        exact pkF_cg c2 c1 c4 c3 c5 c6 c7 i hi
      · rw [w1 34 (by omega) (by omega) (by omega), hBn 34 (by omega), put_vu, vu_self]; rfl
      · rw [← hW, put_vu, vu_self]; rfl
  | false =>
    obtain ⟨st, hst, hr, -⟩ := a7 rfl
    have hn0 : ¬ r < 0 := by rw [hr]; exact nI_pos (by omega)
    generalize hB : put S' 34 1 0 = B
    have hBS : ∀ c, c < 15 ∨ (21 < c ∧ c ≠ 34) → B c = S c := fun c hc => by
      rw [← hB, put_vu, vu_ne _ _ (by omega), eS' c hc]
    obtain ⟨r2, ok2, S2, T2, d1, d2, d3, d4, d5, d6, d7⟩ := tx_run h (V := B) (fun c hc => hBS c (by omega))
    rw [a1] at d1
    have e1 : r = r2 := congrArg Prod.fst (Option.some.inj d1)
    have e2 : S' = S2 := congrArg Prod.snd (Option.some.inj d1)
    subst e1
    subst e2
    have hok : ok2 = false := by
      cases ok2 with
      | false => rfl
      | true => exact absurd (show r < 0 by rw [d6 rfl]; decide) hn0
    subst hok
    obtain ⟨st2, -, q2, q3⟩ := d7 rfl
    have eT : ∀ c, c ≠ 46 → c ≠ 47 → c ≠ 49 → T2 c = B c := fun c z1 z2 z3 => by
      rw [d5.1 c z1 z2, put_vu, vu_ne _ _ z1, bgM_ne z3]
    have eT49 : T2 49 = lay92 (S 47) (B 49) := by
      rw [d5.1 49 (by decide) (by decide), put_vu, vu_ne _ _ (by decide), bgM_49, hBS 47 (by omega)]
    have eT6 : ∀ j, j < 7 → T2 46 j = S 46 j := fun j hj => by
      rw [d5.2 j hj, put_vu, vu_self, upd_app, if_neg (by omega), bgM_ne (by decide), hBS 46 (by omega)]
    refine ⟨(-1) - r, B, va_up (put T2 46 6 0) 47 (lay92 (put T2 46 6 0 49) (put T2 46 6 0 47)), hfs _ ?_, ?_, ?_⟩
    · dsimp only
      rw [if_neg hn0, hB]
    · unfold f_M_text
      rw [m_bg, Option.bind_some, d2, Option.bind_some]
      dsimp only
      rw [if_pos (show bI false = 0 from rfl), m_layBack, Option.bind_some]
      have : va_up (put T2 46 6 0) 47 (lay92 (put T2 46 6 0 49) (put T2 46 6 0 47)) 46 9 = r := by
        rw [vu_ne _ _ (by decide), put_vu, vu_self, upd_app, if_neg (by decide), q3, q2]
      rw [this]
    · generalize hW : va_up (put T2 46 6 0) 47 (lay92 (put T2 46 6 0 49) (put T2 46 6 0 47)) = W
      have w1 : ∀ c, c ≠ 46 → c ≠ 47 → c ≠ 49 → W c = B c := fun c z1 z2 z3 => by
        rw [← hW, vu_ne _ _ z2, put_vu, vu_ne _ _ z1, eT c z1 z2 z3]
      have w2 : ∀ c, (c < 15 ∨ (21 < c ∧ c ≠ 34)) → c ≠ 46 → c ≠ 47 → c ≠ 49 → W c = S c := fun c z z1 z2 z3 => (w1 c z1 z2 z3).trans (hBS c z)
      have w46 : ∀ j, j < 6 → W 46 j = S 46 j := fun j hj => by
        rw [← hW, vu_ne _ _ (by decide), put_vu, vu_self, upd_app, if_neg (by omega)]
        exact eT6 j (by omega)
      have w47 : ∀ i, i < 92 → W 47 i = S 47 i := fun i hi => by
        rw [← hW, vu_self, put_vu, vu_ne _ _ (by decide), eT49]
        unfold lay92
        rw [if_pos hi, if_pos hi]
      refine ⟨h28.1.of (w2 _ (by omega) (by omega) (by omega) (by omega)) (w2 _ (by omega) (by omega) (by omega) (by omega)) (w2 _ (by omega) (by omega) (by omega) (by omega)) (w2 _ (by omega) (by omega) (by omega) (by omega)) (w2 _ (by omega) (by omega) (by omega) (by omega)) (w2 _ (by omega) (by omega) (by omega) (by omega)) w47,
        h28.2.1.of (w2 _ (by omega) (by omega) (by omega) (by omega)) (w46 3 (by omega)) (w2 _ (by omega) (by omega) (by omega) (by omega)) (w2 _ (by omega) (by omega) (by omega) (by omega)) (w2 _ (by omega) (by omega) (by omega) (by omega)) (w2 _ (by omega) (by omega) (by omega) (by omega)) (w2 _ (by omega) (by omega) (by omega) (by omega)) (w2 _ (by omega) (by omega) (by omega) (by omega)) (w2 _ (by omega) (by omega) (by omega) (by omega)),
        h28.2.2.1.of (w2 _ (by omega) (by omega) (by omega) (by omega)) (w2 _ (by omega) (by omega) (by omega) (by omega)), I_tp.none ?_ ?_,
        h28.2.2.2.2.of (fun c h1 h2 => w2 c (by omega) (by omega) (by omega) (by omega)) (w2 _ (by omega) (by omega) (by omega) (by omega)) (w2 _ (by omega) (by omega) (by omega) (by omega)) (w2 _ (by omega) (by omega) (by omega) (by omega))⟩
      · rw [w1 34 (by omega) (by omega) (by omega), ← hB, put_vu, vu_self]; rfl
      · rw [← hW, vu_ne _ _ (by decide), put_vu, vu_self]; rfl
end TEXT2
