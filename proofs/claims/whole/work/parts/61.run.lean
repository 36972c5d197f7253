/-! ===== the law's loop: every answer of the class is the model's ===== -/
section RUN
variable {N : Int} {S : St}
abbrev Yes (f : Option (Bool × St)) : Prop := ∃ S2, f = some (true, S2)
theorem Yes.ite {c : Prop} [Decidable c] {f g : Option (Bool × St)} (h1 : c → Yes f) (h2 : ¬ c → Yes g) : Yes (if c then f else g) := by
  by_cases h : c
  · rw [if_pos h]; exact h1 h
  · rw [if_neg h]; exact h2 h
theorem Yes.grd {c : Bool} {f : Option (Bool × St)} (hc : c = true) (h : Yes f) : Yes (if c = true then f else none) := by rw [if_pos hc]; exact h
theorem Yes.step {fS fM : St → Option (Int32 × St)} {F : St → Option (Bool × St)} (hp : Step2 N fS fM) (h : Inv N S) (k : ∀ S2, Inv (N + 28800) S2 → Yes (F S2)) : Yes ((fS S).bind fun q => ((fM q.2).bind fun r => (if q.1 = r.1 then F r.2 else some (false, r.2)))) := by
  obtain ⟨r, S1, S2, a1, a2, a3⟩ := hp S h
  rw [a1, Option.bind_some, a2, Option.bind_some, if_pos rfl]
  exact k S2 a3
set_option maxRecDepth 10000 in
set_option maxHeartbeats 4000000 in
theorem law_run {L : Nat} {xs : Nat → Int32} (hL : L ≤ 3072) : ∀ (m n i : Nat) (N : Int) (S : St), L ≤ i + 6 * m + 5 → m + 1 ≤ n → i ≤ L → N + 28800 * (m : Int) < 1900000000 → Inv N S → Yes (f_law_L18 L xs n (nI i) S) := by
  intro m
  have e0 : (6 : Int32).toInt = 6 := rfl
  have eL : (Int32.ofNat L - 6).toInt = (L : Int) - 6 := by
    have h1 : (Int32.ofNat L).toInt = (L : Int) := nI_toInt (n := L) (by omega)
    rw [i_sub (by rw [h1, e0]; omega) (by rw [h1, e0]; omega), h1, e0]
  induction m with
  | zero =>
    intro n i N S h1 hn hi hN h
    obtain ⟨n, rfl⟩ : ∃ n', n = n' + 1 := ⟨n - 1, by omega⟩
    have q : Int32.ofNat L - 6 < nI i := by rw [i_lt, eL, nI_toInt (by omega)]; omega
    rw [f_law_L18, if_pos q]
    exact ⟨S, rfl⟩
  | succ m ih =>
    intro n i N S h1 hn hi hN h
    obtain ⟨n, rfl⟩ : ∃ n', n = n' + 1 := ⟨n - 1, by omega⟩
    rw [f_law_L18]
    refine Yes.ite (fun _ => ⟨S, rfl⟩) (fun q => ?_)
    rw [i_lt, eL, nI_toInt (by omega)] at q
    have hN1 : N < 1900000000 := by omega
    have b0 : inb (nI i) L = true := inb_n (by omega) (by omega)
    have b1 : inb (nI i + 1) L = true := by rw [show nI i + (1 : Int32) = nI (i + 1) from nI_add i 1]; exact inb_n (by omega) (by omega)
    have b2 : inb (nI i + 2) L = true := by rw [show nI i + (2 : Int32) = nI (i + 2) from nI_add i 2]; exact inb_n (by omega) (by omega)
    have b3 : inb (nI i + 3) L = true := by rw [show nI i + (3 : Int32) = nI (i + 3) from nI_add i 3]; exact inb_n (by omega) (by omega)
    have b4 : inb (nI i + 4) L = true := by rw [show nI i + (4 : Int32) = nI (i + 4) from nI_add i 4]; exact inb_n (by omega) (by omega)
    have b5 : inb (nI i + 5) L = true := by rw [show nI i + (5 : Int32) = nI (i + 5) from nI_add i 5]; exact inb_n (by omega) (by omega)
    have kk : ∀ S2, Inv (N + 28800) S2 → Yes (f_law_L18 L xs n (nI i + 6) S2) := fun S2 h2 => by
      rw [show nI i + (6 : Int32) = nI (i + 6) from nI_add i 6]
      exact ih n (i + 6) (N + 28800) S2 (by omega) (by omega) (by omega) (by omega) h2
    refine Yes.grd b0 ?_
    refine Yes.ite (fun _ => Yes.grd b1 (Yes.grd b2 (Yes.step (p_sand _ _) h kk))) (fun _ => ?_)
    refine Yes.ite (fun _ => Yes.grd b1 (Yes.grd b2 (Yes.step (p_yardOf _ _) h kk))) (fun _ => ?_)
    refine Yes.ite (fun _ => Yes.grd b1 (Yes.grd b2 (Yes.step (p_set _ _) h kk))) (fun _ => ?_)
    refine Yes.ite (fun _ => Yes.grd b1 (Yes.step (p_now _) h kk)) (fun _ => ?_)
    refine Yes.ite (fun _ => Yes.grd b1 (Yes.grd b2 (Yes.step (p_soft _ _) h kk))) (fun _ => ?_)
    refine Yes.ite (fun _ => Yes.grd b1 (Yes.step (p_wind _) h kk)) (fun _ => ?_)
    refine Yes.ite (fun _ => Yes.grd b1 (Yes.grd b2 (Yes.step (p_effort _ _) h kk))) (fun _ => ?_)
    refine Yes.ite (fun _ => Yes.grd b1 (Yes.grd b2 (Yes.step (p_effortOf (by omega) _ _) h kk))) (fun _ => ?_)
    refine Yes.ite (fun _ => Yes.grd b1 (Yes.step (p_go hN1 _) h kk)) (fun _ => ?_)
    refine Yes.ite (fun _ => Yes.grd b1 (Yes.grd b2 (Yes.step (p_gives hN1 _ _) h kk))) (fun _ => ?_)
    refine Yes.ite (fun _ => Yes.grd b1 (Yes.step (p_lasts hN1 _) h kk)) (fun _ => ?_)
    refine Yes.ite (fun _ => Yes.grd b1 (Yes.step (p_out hN1 _) h kk)) (fun _ => ?_)
    refine Yes.ite (fun _ => Yes.grd b1 (Yes.step (p_when hN1 _) h kk)) (fun _ => ?_)
    refine Yes.ite (fun _ => Yes.grd b1 (Yes.grd b2 (Yes.step (p_feed _ _) h kk))) (fun _ => ?_)
    refine Yes.ite (fun _ => Yes.step (p_wipe) h kk) (fun _ => ?_)
    refine Yes.ite (fun _ => Yes.step (p_text) h kk) (fun _ => ?_)
    refine Yes.ite (fun _ => Yes.grd b1 (Yes.step (p_planOf _) h kk)) (fun _ => ?_)
    refine Yes.ite (fun _ => Yes.step (p_clear) h kk) (fun _ => ?_)
    refine Yes.ite (fun _ => Yes.step (p_follow hN1) h kk) (fun _ => ?_)
    refine Yes.ite (fun _ => Yes.grd b1 (Yes.step (p_plans hN1 _) h kk)) (fun _ => ?_)
    refine Yes.ite (fun _ => Yes.grd b1 (Yes.grd b2 (Yes.step (p_best hN1 _ _) h kk))) (fun _ => ?_)
    refine Yes.ite (fun _ => Yes.grd b1 (Yes.step (p_airFor _) h kk)) (fun _ => ?_)
    refine Yes.ite (fun _ => Yes.grd b1 (Yes.step (p_sacksFor _) h kk)) (fun _ => ?_)
    refine Yes.ite (fun _ => Yes.step (p_waterFor hN1) h kk) (fun _ => ?_)
    refine Yes.ite (fun _ => Yes.grd b1 (Yes.step (p_boardsFor hN1 _) h kk)) (fun _ => ?_)
    refine Yes.ite (fun _ => Yes.step (p_way hN1) h kk) (fun _ => ?_)
    refine Yes.ite (fun _ => Yes.grd b1 (Yes.step (p_odds _) h kk)) (fun _ => ?_)
    refine Yes.ite (fun _ => Yes.grd b1 (Yes.step (p_seed _) h kk)) (fun _ => ?_)
    refine Yes.ite (fun _ => Yes.grd b1 (Yes.grd b2 (Yes.step (p_hold _ _) h kk))) (fun _ => ?_)
    refine Yes.ite (fun _ => Yes.grd b1 (Yes.grd b2 (Yes.step (p_as _ _) h kk))) (fun _ => ?_)
    refine Yes.ite (fun _ => Yes.grd b1 (Yes.grd b2 (Yes.grd b3 (Yes.step (p_sheet _ _ _) h kk)))) (fun _ => ?_)
    refine Yes.ite (fun _ => Yes.grd b1 (Yes.grd b2 (Yes.grd b3 (Yes.step (p_write _ _ _) h kk)))) (fun _ => ?_)
    refine Yes.ite (fun _ => Yes.grd b1 (Yes.grd b2 (Yes.grd b3 (Yes.grd b4 (Yes.grd b5 (Yes.step (p_copy _ _ _ _ _) h kk)))))) (fun _ => ?_)
    refine Yes.ite (fun _ => Yes.grd b1 (Yes.grd b2 (Yes.step (p_load _ _) h kk))) (fun _ => ?_)
    refine Yes.ite (fun _ => Yes.grd b1 (Yes.step (p_judge hN1 _) h kk)) (fun _ => ?_)
    refine Yes.ite (fun _ => Yes.step (p_image) h kk) (fun _ => ?_)
    refine Yes.ite (fun _ => Yes.step (p_undo) h kk) (fun _ => ?_)
    refine Yes.ite (fun _ => Yes.step (p_tear) h kk) (fun _ => ?_)
    refine Yes.ite (fun _ => Yes.grd b1 (Yes.step (p_count _) h kk)) (fun _ => ?_)
    refine Yes.ite (fun _ => Yes.grd b1 (Yes.step (p_status _) h kk)) (fun _ => ?_)
    exact kk S h.up28
end RUN
