/-! ===== the invariant between the class's cells and the model's ===== -/
def pkF (z n : Int32) (a f sl sp pl : Nat → Int32) : Nat → Int32 := fun i => if i < 10 then a i else if i = 10 then z else if i = 11 then n else if i < 52 then f (i - 12) else if i < 62 then sl (i - 52) else if i < 72 then sp (i - 62) else pl (i - 72)
/-- a scene, as it may be -/
def Sc (N : Int) (n : Int32) (a sl sp pl : Nat → Int32) : Prop := Bd a N ∧ (∀ i, i < 10 → -1 ≤ (sl i).toInt ∧ (sl i).toInt ≤ 7) ∧ (∀ i, i < 10 → -1 ≤ (sp i).toInt ∧ (sp i).toInt ≤ 9) ∧ (0 ≤ n.toInt ∧ n.toInt ≤ 20) ∧ (∀ i : Nat, (i : Int) < n.toInt → 0 ≤ (pl i).toInt ∧ (pl i).toInt ≤ 7)
def I_sc (N : Int) (S : St) : Prop := Sc N (S 1 5) (S 4) (S 5) (S 6) (S 7) ∧ ∀ i, i < 92 → S 47 i = pkF (S 1 6) (S 1 5) (S 4) (S 3) (S 5) (S 6) (S 7) i
def I_kp (N : Int) (S : St) : Prop := S 46 3 = S 0 9 ∧ (S 0 9 = 0 ∨ S 0 9 = 1) ∧ (¬ S 0 9 = 0 → Sc N (S 8 5) (S 11) (S 12) (S 13) (S 14) ∧ ∀ i, i < 92 → S 48 i = pkF (S 8 6) (S 8 5) (S 11) (S 10) (S 12) (S 13) (S 14) i)
def I_fi (S : St) : Prop := ∀ i, i < 7 → S 50 i = S 45 i
def I_tp (S : St) : Prop := S 46 6 = S 34 1 ∧ (0 ≤ (S 34 1).toInt ∧ (S 34 1).toInt ≤ 120) ∧ ∀ i : Nat, (i : Int) < (S 34 1).toInt → S 51 i = S 35 i ∧ 0 ≤ (S 35 i).toInt ∧ (S 35 i).toInt ≤ 255
def I_sh (S : St) : Prop := ∀ s, s < 4 → S 53 s = S (37 + 2 * s) 1 ∧ S 54 s = S (37 + 2 * s) 2 ∧ (S (37 + 2 * s) 1 = 0 ∨ S (37 + 2 * s) 1 = 8 ∨ S (37 + 2 * s) 1 = 16 ∨ S (37 + 2 * s) 1 = 32) ∧ (0 ≤ (S (37 + 2 * s) 2).toInt ∧ (S (37 + 2 * s) 2).toInt ≤ 40) ∧ ∀ i, i < 40 → S 55 (40 * s + i) = S (38 + 2 * s) i
def Inv (N : Int) (S : St) : Prop := I_sc N S ∧ I_kp N S ∧ I_fi S ∧ I_tp S ∧ I_sh S
theorem Sc.le {N N2 : Int} {n : Int32} {a sl sp pl : Nat → Int32} (h : Sc N n a sl sp pl) (hN : N ≤ N2) : Sc N2 n a sl sp pl := ⟨Bd_le h.1 hN, h.2⟩
theorem Inv.le {N N2 : Int} {S : St} (h : Inv N S) (hN : N ≤ N2) : Inv N2 S :=
  ⟨⟨h.1.1.le hN, h.1.2⟩, ⟨h.2.1.1, h.2.1.2.1, fun q => ⟨(h.2.1.2.2 q).1.le hN, (h.2.1.2.2 q).2⟩⟩, h.2.2⟩
section INV
variable {N : Int} {S T : St}
theorem I_sc.of (h : I_sc N S) (h1 : T 1 = S 1) (h3 : T 3 = S 3) (h4 : T 4 = S 4) (h5 : T 5 = S 5) (h6 : T 6 = S 6) (h7 : T 7 = S 7) (h47 : ∀ i, i < 92 → T 47 i = S 47 i) : I_sc N T := by
  unfold I_sc at h ⊢
  rw [h1, h3, h4, h5, h6, h7]
  exact ⟨h.1, fun i hi => (h47 i hi).trans (h.2 i hi)⟩
theorem I_kp.of (h : I_kp N S) (h0 : T 0 = S 0) (h46 : T 46 3 = S 46 3) (h8 : T 8 = S 8) (h10 : T 10 = S 10) (h11 : T 11 = S 11) (h12 : T 12 = S 12) (h13 : T 13 = S 13) (h14 : T 14 = S 14) (h48 : T 48 = S 48) : I_kp N T := by
  unfold I_kp at h ⊢
  rw [h0, h46, h8, h10, h11, h12, h13, h14, h48]
  exact h
theorem I_fi.of (h : I_fi S) (h45 : T 45 = S 45) (h50 : T 50 = S 50) : I_fi T := by
  unfold I_fi at h ⊢
  rw [h45, h50]
  exact h
theorem I_tp.of (h : I_tp S) (h34 : T 34 1 = S 34 1) (h46 : T 46 6 = S 46 6) (h35 : T 35 = S 35) (h51 : T 51 = S 51) : I_tp T := by
  unfold I_tp at h ⊢
  rw [h34, h46, h35, h51]
  exact h
theorem I_sh.of (h : I_sh S) (hs : ∀ c, 37 ≤ c → c ≤ 44 → T c = S c) (h53 : T 53 = S 53) (h54 : T 54 = S 54) (h55 : T 55 = S 55) : I_sh T := by
  intro s hs4
  have := h s hs4
  rw [hs (37 + 2 * s) (by omega) (by omega), hs (38 + 2 * s) (by omega) (by omega), h53, h54, h55]
  exact this
/-- the cells that the invariant speaks of are the same -/
theorem Inv.same (h : Inv N S) (hc : ∀ c, c ∈ [0, 1, 3, 4, 5, 6, 7, 8, 10, 11, 12, 13, 14, 35, 37, 38, 39, 40, 41, 42, 43, 44, 45, 48, 50, 51, 53, 54, 55] → T c = S c) (h34 : T 34 1 = S 34 1) (h3 : T 46 3 = S 46 3) (h6 : T 46 6 = S 46 6) (h47 : ∀ i, i < 92 → T 47 i = S 47 i) : Inv N T :=
  ⟨h.1.of (hc _ (by decide)) (hc _ (by decide)) (hc _ (by decide)) (hc _ (by decide)) (hc _ (by decide)) (hc _ (by decide)) h47,
   h.2.1.of (hc _ (by decide)) h3 (hc _ (by decide)) (hc _ (by decide)) (hc _ (by decide)) (hc _ (by decide)) (hc _ (by decide)) (hc _ (by decide)) (hc _ (by decide)),
   h.2.2.1.of (hc _ (by decide)) (hc _ (by decide)),
   h.2.2.2.1.of h34 h6 (hc _ (by decide)) (hc _ (by decide)),
   h.2.2.2.2.of (fun c h1 h2 => hc c (by
     rcases (show c = 37 ∨ c = 38 ∨ c = 39 ∨ c = 40 ∨ c = 41 ∨ c = 42 ∨ c = 43 ∨ c = 44 by omega) with rfl | rfl | rfl | rfl | rfl | rfl | rfl | rfl <;> decide)) (hc _ (by decide)) (hc _ (by decide)) (hc _ (by decide))⟩
/-- reading the model's scene -/
theorem R_has (h : I_sc N S) : ag (S 47) (S 4) := fun i hi => by rw [h.2 i (by omega)]; simp [pkF, hi]
theorem R_z (h : I_sc N S) : S 47 10 = S 1 6 := by rw [h.2 10 (by omega)]; rfl
theorem R_n (h : I_sc N S) : S 47 11 = S 1 5 := by rw [h.2 11 (by omega)]; rfl
theorem R_f (h : I_sc N S) {i : Nat} (hi : i < 40) : S 47 (12 + i) = S 3 i := by
  rw [h.2 (12 + i) (by omega)]
  unfold pkF
  rw [if_neg (by omega), if_neg (by omega), if_neg (by omega), if_pos (by omega), Nat.add_sub_cancel_left]
theorem R_sl (h : I_sc N S) {i : Nat} (hi : i < 10) : S 47 (52 + i) = S 5 i := by
  rw [h.2 (52 + i) (by omega)]
  unfold pkF
  rw [if_neg (by omega), if_neg (by omega), if_neg (by omega), if_neg (by omega), if_pos (by omega), Nat.add_sub_cancel_left]
theorem R_sp (h : I_sc N S) {i : Nat} (hi : i < 10) : S 47 (62 + i) = S 6 i := by
  rw [h.2 (62 + i) (by omega)]
  unfold pkF
  rw [if_neg (by omega), if_neg (by omega), if_neg (by omega), if_neg (by omega), if_neg (by omega), if_pos (by omega), Nat.add_sub_cancel_left]
theorem R_pl (h : I_sc N S) {i : Nat} (hi : i < 20) : S 47 (72 + i) = S 7 i := by
  rw [h.2 (72 + i) (by omega)]
  unfold pkF
  rw [if_neg (by omega), if_neg (by omega), if_neg (by omega), if_neg (by omega), if_neg (by omega), if_neg (by omega), Nat.add_sub_cancel_left]
/-- a step of the law: both answer, and alike -/
def Step2 (N : Int) (fS fM : St → Option (Int32 × St)) : Prop := ∀ S, Inv N S → ∃ r S1 S2, fS S = some (r, S1) ∧ fM S1 = some (r, S2) ∧ Inv (N + 28800) S2
/-- a finding, counted on one side -/
def fnS (w : Nat) (S : St) : St := put S 45 w (S 45 w + 1)
def fnM (w : Nat) (S : St) : St := put S 50 w (S 50 w + 1)
theorem s_find {w : Nat} (hw : w < 7) : f_S_finding (nI w) S = some (-1000001 - nI w, fnS w S) := by
  unfold f_S_finding fnS
  have h7 : ¬ (7 : Int32) ≤ nI w := nI_ge (b := 7) hw (by decide)
  rw [if_neg (nI_pos (by omega)), if_neg h7, if_pos (inb_n hw (by omega)), nI_clamp (by omega)]
theorem m_find {w : Nat} (hw : w < 7) : f_M_finding (nI w) S = some (-1000001 - nI w, fnM w S) := by
  unfold f_M_finding fnM
  rw [if_pos (inb_n hw (by omega)), nI_clamp (by omega)]
theorem Inv.find (h : Inv N S) (w : Nat) : Inv N (fnM w (fnS w S)) := by
  have hr : ∀ c, c ≠ 45 → c ≠ 50 → fnM w (fnS w S) c = S c := by
    intro c h1 h2
    unfold fnM fnS
    rw [put_vu, put_vu, vu_ne _ _ h2, vu_ne _ _ h1]
  refine ⟨h.1.of (hr _ (by decide) (by decide)) (hr _ (by decide) (by decide)) (hr _ (by decide) (by decide)) (hr _ (by decide) (by decide)) (hr _ (by decide) (by decide)) (hr _ (by decide) (by decide)) (fun i _ => by rw [hr 47 (by decide) (by decide)]),
    h.2.1.of (hr _ (by decide) (by decide)) (by rw [hr 46 (by decide) (by decide)]) (hr _ (by decide) (by decide)) (hr _ (by decide) (by decide)) (hr _ (by decide) (by decide)) (hr _ (by decide) (by decide)) (hr _ (by decide) (by decide)) (hr _ (by decide) (by decide)) (hr _ (by decide) (by decide)), ?_,
    h.2.2.2.1.of (by rw [hr 34 (by decide) (by decide)]) (by rw [hr 46 (by decide) (by decide)]) (hr _ (by decide) (by decide)) (hr _ (by decide) (by decide)),
    h.2.2.2.2.of (fun c h1 h2 => hr c (by omega) (by omega)) (hr _ (by decide) (by decide)) (hr _ (by decide) (by decide)) (hr _ (by decide) (by decide))⟩
  intro i hi
  have h0 := h.2.2.1 i hi
  unfold fnM fnS
  rw [put_vu, vu_self, vu_ne _ _ (by decide)]
  rw [put_vu, vu_ne _ _ (by decide), vu_self]
  simp only [upd_app]
  by_cases e : i = w
  · subst e
    simp [h0]
  · simp [e, h0]
/-- both sides tell the same finding -/
theorem find_step (h : Inv N S) {w : Nat} (hw : w < 7) {T : St} (hT : T = S) : ∃ r S1 S2, f_S_finding (nI w) S = some (r, S1) ∧ f_M_finding (nI w) (fnS w T) = some (r, S2) ∧ Inv (N + 28800) S2 := by
  subst hT
  exact ⟨_, _, _, s_find hw, m_find hw, (h.find w).le (by omega)⟩
end INV
