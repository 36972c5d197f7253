/-! ===== image, undo ===== -/
section METH16
variable {N : Int} {S : St}
def becS (S : St) (t f : Nat) : St := fun c => if c = t then upd (upd (S t) 5 (S f 5)) 6 (S f 6) else if c = t + 2 then va_cpy (S (f + 2)) (S (t + 2)) 0 0 40 else if c = t + 3 then cp10 (S (f + 3)) (S (t + 3)) else if c = t + 4 then va_cpy (S (f + 4)) (S (t + 4)) 0 0 10 else if c = t + 5 then va_cpy (S (f + 5)) (S (t + 5)) 0 0 10 else if c = t + 6 then va_cpy (S (f + 6)) (S (t + 6)) 0 0 20 else S c
theorem becS_ne {t f c : Nat} (h : c < t ∨ c = t + 1 ∨ t + 6 < c) : becS S t f c = S c := by
  unfold becS
  rw [if_neg (by omega), if_neg (by omega), if_neg (by omega), if_neg (by omega), if_neg (by omega), if_neg (by omega)]
theorem bec_8_1 : f_C_become_8_1 S = some (becS S 8 1) := by
  unfold f_C_become_8_1
  simp only [l_become, Option.bind_some]
  congr 1
  funext c
  by_cases h1 : c = 8
  · subst h1; rfl
  by_cases h2 : c = 10
  · subst h2; rfl
  by_cases h3 : c = 11
  · subst h3; rfl
  by_cases h4 : c = 12
  · subst h4; rfl
  by_cases h5 : c = 13
  · subst h5; rfl
  by_cases h6 : c = 14
  · subst h6; rfl
  rw [becS_ne (by omega)]
  unfold cpy
  rw [put_vu, vu_ne _ _ h1, put_vu, vu_ne _ _ h1, vu_ne _ _ h6, vu_ne _ _ h5, vu_ne _ _ h4, vu_ne _ _ h3, vu_ne _ _ h2]
theorem bec_1_8 : f_C_become_1_8 S = some (becS S 1 8) := by
  unfold f_C_become_1_8
  simp only [l_become, Option.bind_some]
  congr 1
  funext c
  by_cases h1 : c = 1
  · subst h1; rfl
  by_cases h2 : c = 3
  · subst h2; rfl
  by_cases h3 : c = 4
  · subst h3; rfl
  by_cases h4 : c = 5
  · subst h4; rfl
  by_cases h5 : c = 6
  · subst h5; rfl
  by_cases h6 : c = 7
  · subst h6; rfl
  rw [becS_ne (by omega)]
  unfold cpy
  rw [put_vu, vu_ne _ _ h1, put_vu, vu_ne _ _ h1, vu_ne _ _ h6, vu_ne _ _ h5, vu_ne _ _ h4, vu_ne _ _ h3, vu_ne _ _ h2]
theorem bec_15_1 : f_C_become_15_1 S = some (becS S 15 1) := by
  unfold f_C_become_15_1
  simp only [l_become, Option.bind_some]
  congr 1
  funext c
  by_cases h1 : c = 15
  · subst h1; rfl
  by_cases h2 : c = 17
  · subst h2; rfl
  by_cases h3 : c = 18
  · subst h3; rfl
  by_cases h4 : c = 19
  · subst h4; rfl
  by_cases h5 : c = 20
  · subst h5; rfl
  by_cases h6 : c = 21
  · subst h6; rfl
  rw [becS_ne (by omega)]
  unfold cpy
  rw [put_vu, vu_ne _ _ h1, put_vu, vu_ne _ _ h1, vu_ne _ _ h6, vu_ne _ _ h5, vu_ne _ _ h4, vu_ne _ _ h3, vu_ne _ _ h2]
theorem bec_1_15 : f_C_become_1_15 S = some (becS S 1 15) := by
  unfold f_C_become_1_15
  simp only [l_become, Option.bind_some]
  congr 1
  funext c
  by_cases h1 : c = 1
  · subst h1; rfl
  by_cases h2 : c = 3
  · subst h2; rfl
  by_cases h3 : c = 4
  · subst h3; rfl
  by_cases h4 : c = 5
  · subst h4; rfl
  by_cases h5 : c = 6
  · subst h5; rfl
  by_cases h6 : c = 7
  · subst h6; rfl
  rw [becS_ne (by omega)]
  unfold cpy
  rw [put_vu, vu_ne _ _ h1, put_vu, vu_ne _ _ h1, vu_ne _ _ h6, vu_ne _ _ h5, vu_ne _ _ h4, vu_ne _ _ h3, vu_ne _ _ h2]
theorem cpyS {f g : Nat → Int32} {n i : Nat} (h : i < n) : va_cpy f g 0 0 n i = f i := by
  rw [pk_cpy_in (by omega) (by omega)]
  congr 1
  omega
/-- a scene that is another's copy -/
def Cp (S T : St) (f t : Nat) : Prop := T t 5 = S f 5 ∧ T t 6 = S f 6 ∧ agF (T (t + 2)) (S (f + 2)) ∧ ag (T (t + 3)) (S (f + 3)) ∧ ag (T (t + 4)) (S (f + 4)) ∧ ag (T (t + 5)) (S (f + 5)) ∧ ∀ i, i < 20 → T (t + 6) i = S (f + 6) i
theorem becS_cp {t f : Nat} : Cp S (becS S t f) f t := by
  have e0 : becS S t f t = upd (upd (S t) 5 (S f 5)) 6 (S f 6) := by unfold becS; rw [if_pos rfl]
  have e2 : becS S t f (t + 2) = va_cpy (S (f + 2)) (S (t + 2)) 0 0 40 := by unfold becS; rw [if_neg (by omega), if_pos rfl]
  have e3 : becS S t f (t + 3) = cp10 (S (f + 3)) (S (t + 3)) := by unfold becS; rw [if_neg (by omega), if_neg (by omega), if_pos rfl]
  have e4 : becS S t f (t + 4) = va_cpy (S (f + 4)) (S (t + 4)) 0 0 10 := by unfold becS; rw [if_neg (by omega), if_neg (by omega), if_neg (by omega), if_pos rfl]
  have e5 : becS S t f (t + 5) = va_cpy (S (f + 5)) (S (t + 5)) 0 0 10 := by unfold becS; rw [if_neg (by omega), if_neg (by omega), if_neg (by omega), if_neg (by omega), if_pos rfl]
  have e6 : becS S t f (t + 6) = va_cpy (S (f + 6)) (S (t + 6)) 0 0 20 := by unfold becS; rw [if_neg (by omega), if_neg (by omega), if_neg (by omega), if_neg (by omega), if_neg (by omega), if_pos rfl]
  refine ⟨by rw [e0]; rfl, by rw [e0]; rfl, ?_, ?_, ?_, ?_, ?_⟩
  · rw [e2]; exact fun i hi => cpyS hi
  · rw [e3]; exact cp10_ag _ _
  · rw [e4]; exact fun i hi => cpyS hi
  · rw [e5]; exact fun i hi => cpyS hi
  · rw [e6]; exact fun i hi => cpyS hi
theorem Sc.cg {n n2 : Int32} {a sl sp pl a2 sl2 sp2 pl2 : Nat → Int32} (h : Sc N n a sl sp pl) (hn : n2 = n) (ha : ag a2 a) (hsl : ag sl2 sl) (hsp : ag sp2 sp) (hpl : ∀ i, i < 20 → pl2 i = pl i) : Sc N n2 a2 sl2 sp2 pl2 := by
  subst hn
  obtain ⟨h1, h2, h3, h4, h5⟩ := h
  refine ⟨Bd_ag ha.sy h1, fun i hi => by rw [hsl i hi]; exact h2 i hi, fun i hi => by rw [hsp i hi]; exact h3 i hi, h4, fun i hi => ?_⟩
  rw [hpl i (by omega)]
  exact h5 i hi
theorem pkF_cg {z n z2 n2 : Int32} {a f sl sp pl a2 f2 sl2 sp2 pl2 : Nat → Int32} (hz : z2 = z) (hn : n2 = n) (ha : ag a2 a) (hf : agF f2 f) (hsl : ag sl2 sl) (hsp : ag sp2 sp) (hpl : ∀ i, i < 20 → pl2 i = pl i) : ∀ i, i < 92 → pkF z n a f sl sp pl i = pkF z2 n2 a2 f2 sl2 sp2 pl2 i := by
  intro i hi
  subst hz
  subst hn
  unfold pkF
  split
  · exact (ha i (by omega)).symm
  · split
    · rfl
    · split
      · rfl
      · split
        · exact (hf _ (by omega)).symm
        · split
          · exact (hsl _ (by omega)).symm
          · split
            · exact (hsp _ (by omega)).symm
            · exact (hpl _ (by omega)).symm
theorem p_image : Step2 N f_S_image f_M_image := by
  intro S h
  have hcp := becS_cp (S := S) (t := 8) (f := 1)
  generalize hB : becS S 8 1 = B at hcp
  have hBn : ∀ c, c < 8 ∨ c = 9 ∨ 14 < c → B c = S c := fun c hc => by rw [← hB]; exact becS_ne (by omega)
  refine ⟨1, put B 0 9 1, put (va_up (put B 0 9 1) 48 (lay92 (S 47) (S 48))) 46 3 1, ?_, ?_, ?_⟩
  · unfold f_S_image
    rw [bec_8_1, Option.bind_some, hB]
  · unfold f_M_image
    rw [m_lay (by decide), Option.bind_some]
    have e47 : put B 0 9 1 47 = S 47 := by rw [put_vu, vu_ne _ _ (by decide), hBn 47 (by omega)]
    have e48 : put B 0 9 1 48 = S 48 := by rw [put_vu, vu_ne _ _ (by decide), hBn 48 (by omega)]
    rw [e47, e48]
  · generalize hT : put (va_up (put B 0 9 1) 48 (lay92 (S 47) (S 48))) 46 3 1 = T
    have hTB : ∀ c, c ≠ 0 → c ≠ 46 → c ≠ 48 → T c = B c := by
      intro c a1 a2 a3
      rw [← hT, put_vu, vu_ne _ _ a2, vu_ne _ _ a3, put_vu, vu_ne _ _ a1]
    have hTn : ∀ c, c ≠ 0 → c ≠ 46 → c ≠ 48 → (c < 8 ∨ c = 9 ∨ 14 < c) → T c = S c := fun c a1 a2 a3 a4 => (hTB c a1 a2 a3).trans (hBn c a4)
    have h28 := h.up28
    refine ⟨h28.1.of (hTn _ (by omega) (by omega) (by omega) (by omega)) (hTn _ (by omega) (by omega) (by omega) (by omega)) (hTn _ (by omega) (by omega) (by omega) (by omega)) (hTn _ (by omega) (by omega) (by omega) (by omega)) (hTn _ (by omega) (by omega) (by omega) (by omega)) (hTn _ (by omega) (by omega) (by omega) (by omega)) (fun i _ => by rw [hTn 47 (by omega) (by omega) (by omega) (by omega)]), ?_,
      h28.2.2.1.of (hTn _ (by omega) (by omega) (by omega) (by omega)) (hTn _ (by omega) (by omega) (by omega) (by omega)),
      h28.2.2.2.1.of (by rw [hTn 34 (by omega) (by omega) (by omega) (by omega)]) ?_ (hTn _ (by omega) (by omega) (by omega) (by omega)) (hTn _ (by omega) (by omega) (by omega) (by omega)),
      h28.2.2.2.2.of (fun c h1 h2 => hTn c (by omega) (by omega) (by omega) (by omega)) (hTn _ (by omega) (by omega) (by omega) (by omega)) (hTn _ (by omega) (by omega) (by omega) (by omega)) (hTn _ (by omega) (by omega) (by omega) (by omega))⟩
    · have e0 : T 0 9 = 1 := by
        rw [← hT, put_vu, vu_ne _ _ (by decide), vu_ne _ _ (by decide), put_vu, vu_self]; rfl
      have e46 : T 46 3 = 1 := by rw [← hT, put_vu, vu_self]; rfl
      have e48 : ∀ i, i < 92 → T 48 i = S 47 i := by
        intro i hi
        rw [← hT, put_vu, vu_ne _ _ (by decide), vu_self]
        unfold lay92
        rw [if_pos hi]
      obtain ⟨c1, c2, c3, c4, c5, c6, c7⟩ := hcp
      have q8 := hTB 8 (by omega) (by omega) (by omega)
      have q10 := hTB 10 (by omega) (by omega) (by omega)
      have q11 := hTB 11 (by omega) (by omega) (by omega)
      have q12 := hTB 12 (by omega) (by omega) (by omega)
      have q13 := hTB 13 (by omega) (by omega) (by omega)
      have q14 := hTB 14 (by omega) (by omega) (by omega)
      unfold I_kp
      rw [e0, e46, q8, q10, q11, q12, q13, q14]
      refine ⟨rfl, Or.inr rfl, fun _ => ⟨h28.1.1.cg c1 c4 c5 c6 c7, fun i hi => ?_⟩⟩
      rw [e48 i hi, h.1.2 i hi]
      exact pkF_cg c2 c1 c4 c3 c5 c6 c7 i hi
    · rw [← hT, put_vu, vu_self]
      show va_up (put B 0 9 1) 48 (lay92 (S 47) (S 48)) 46 6 = S 46 6
      rw [vu_ne _ _ (by decide), put_vu, vu_ne _ _ (by decide), hBn 46 (by omega)]
theorem p_undo : Step2 N f_S_undo f_M_undo := by
  intro S h
  unfold f_S_undo f_M_undo
  obtain ⟨k1, k2, k3⟩ := h.2.1
  by_cases h0 : S 0 9 = 0
  · rw [if_pos h0, s_f3]
    refine ⟨(-1000001) - 3, fnS 3 S, fnM 3 (fnS 3 S), rfl, ?_, (h.find 3).up28⟩
    rw [if_pos (show fnS 3 S 46 3 = 0 by rw [fnS_ne (by decide), k1]; exact h0), m_f3]
    rfl
  · obtain ⟨sk, pk⟩ := k3 h0
    have hcp := becS_cp (S := S) (t := 1) (f := 8)
    rw [if_neg h0, bec_1_8, Option.bind_some]
    generalize hB : becS S 1 8 = B at hcp
    have hBn : ∀ c, c < 1 ∨ c = 2 ∨ 7 < c → B c = S c := fun c hc => by rw [← hB]; exact becS_ne (by omega)
    obtain ⟨c1, c2, c3, c4, c5, c6, c7⟩ := hcp
    refine ⟨B 4 7, B, va_up B 47 (lay92 (S 48) (S 47)), rfl, ?_, ?_⟩
    · rw [if_neg (show ¬ B 46 3 = 0 by rw [hBn 46 (by omega), k1]; exact h0), m_lay (by decide), Option.bind_some, vu_self, hBn 47 (by omega), hBn 48 (by omega)]
      have e1 : lay92 (S 48) (S 47) 7 = S 48 7 := rfl
      have e2 : S 48 7 = S 11 7 := by rw [pk 7 (by omega)]; rfl
      have e3 : B 4 7 = S 11 7 := c4 7 (by decide)
      rw [e1, e2, e3]
    · have hTn : ∀ c, c ≠ 47 → (c < 1 ∨ c = 2 ∨ 7 < c) → va_up B 47 (lay92 (S 48) (S 47)) c = S c := fun c a1 a2 => (vu_ne _ _ a1).trans (hBn c a2)
      have hTB : ∀ c, c ≠ 47 → va_up B 47 (lay92 (S 48) (S 47)) c = B c := fun c a1 => vu_ne _ _ a1
      refine h.mvS (by omega) (fun c hc q1 q3 q4 q5 q6 q7 => hTn c hc.2.2.1 (by omega)) (by rw [hTn 34 (by omega) (by omega)]) (by rw [hTn 46 (by omega) (by omega)]) (by rw [hTn 46 (by omega) (by omega)]) ?_
      unfold I_sc
      rw [hTB 1 (by omega), hTB 3 (by omega), hTB 4 (by omega), hTB 5 (by omega), hTB 6 (by omega), hTB 7 (by omega), vu_self]
      refine ⟨(sk.le (by omega)).cg c1 c4 c5 c6 c7, fun i hi => ?_⟩
      have e1 : lay92 (S 48) (S 47) i = S 48 i := by unfold lay92; rw [if_pos hi]
      rw [e1, pk i hi]
      exact pkF_cg c2 c1 c4 c3 c5 c6 c7 i hi
end METH16
