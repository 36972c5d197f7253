/-! ===== what the constructors leave is a store; the law from its entry ===== -/
def S0L : List (Nat → Int32) := [(fun _ => 0), (upd (fun _ => 0) 6 1), (fun _ => 0), (fillF 40 50 (fun _ => 0)), (hasI), (fillF 10 (-1) (fun _ => 0)), (fillF 10 (-1) (fun _ => 0)), (fun _ => 0), (upd (fun _ => 0) 6 1), (fun _ => 0), (fillF 40 50 (fun _ => 0)), (hasI), (fillF 10 (-1) (fun _ => 0)), (fillF 10 (-1) (fun _ => 0)), (fun _ => 0), (upd (fun _ => 0) 6 1), (fun _ => 0), (fillF 40 50 (fun _ => 0)), (hasI), (fillF 10 (-1) (fun _ => 0)), (fillF 10 (-1) (fun _ => 0)), (fun _ => 0), (fun _ => 0), (hasI), (fun _ => 0), (fun _ => 0), (fun _ => 0), (hasI), (fun _ => 0), (hasI), (fun _ => 0), (hasI), (fun _ => 0), (hasI), (fun _ => 0), (fun _ => 0), (fun _ => 0), (fun _ => 0), (fun _ => 0), (fun _ => 0), (fun _ => 0), (fun _ => 0), (fun _ => 0), (fun _ => 0), (fun _ => 0), (fun _ => 0), (fun _ => 0), (rngF 52 62 (-1) (rngF 62 72 (-1) (rngF 12 52 50 (upd (upd (upd (upd (upd (upd (fun _ => 0) 0 20) 2 20) 4 2) 5 4) 6 900) 10 1)))), (fun _ => 0), (fun _ => 0), (fun _ => 0), (fun _ => 0), (fun _ => 0), (fun _ => 0), (fun _ => 0), (fun _ => 0), (fun _ => 0)]
def S0 : St := fun c => S0L.getD c (fun _ => 0)
theorem e25r (b : Nat) : ((va_up (va_up (va_up (va_up (fun _ => none) 0 (some (b + 26))) 1 (some (b + 28))) 2 (some (b + 30))) 3 (some (b + 32))) : Nat → Option Nat) = fun i => (([26, 28, 30, 32] : List Nat)[i]?).map (fun c' => b + c') := by
  funext i
  match i with
  | 0 => rfl
  | 1 => rfl
  | 2 => rfl
  | 3 => rfl
  | i + 4 =>
    rw [vu_ne _ _ (by omega), vu_ne _ _ (by omega), vu_ne _ _ (by omega), vu_ne _ _ (by omega)]
    rfl
theorem e36r (b : Nat) : ((va_up (va_up (va_up (va_up (fun _ => none) 0 (some (b + 37))) 1 (some (b + 39))) 2 (some (b + 41))) 3 (some (b + 43))) : Nat → Option Nat) = fun i => (([37, 39, 41, 43] : List Nat)[i]?).map (fun c' => b + c') := by
  funext i
  match i with
  | 0 => rfl
  | 1 => rfl
  | 2 => rfl
  | 3 => rfl
  | i + 4 =>
    rw [vu_ne _ _ (by omega), vu_ne _ _ (by omega), vu_ne _ _ (by omega), vu_ne _ _ (by omega)]
    rfl
def M38g (X : xC) (f g : Nat → Option Nat) : List va_E := [.inr (5, [.ref (xB X + 1), .ref (xB X + 8), .ref (xB X + 15), .ref (xB X + 2), .ref (xB X + 22), .ref (xB X + 24), .ref (xB X + 34), .ref (xB X + 36), .ref (xB X + 45), .int 0]), .inr (1, [.ref (xB X + 2), .ref (xB X + 3), .ref (xB X + 5), .ref (xB X + 6), .ref (xB X + 7), .int 0, .int 1]), .inr (0, [.ref (xB X + 3), .ref (xB X + 4)]), .inl (xI X, 40, .inl (fillF 40 50 (fun _ => 0))), .inl (xI X, 10, .inl (hasI)), .inl (xI X, 10, .inl (fillF 10 (-1) (fun _ => 0))), .inl (xI X, 10, .inl (fillF 10 (-1) (fun _ => 0))), .inl (xI X, 20, .inl (fun _ => 0)), .inr (1, [.ref (xB X + 9), .ref (xB X + 10), .ref (xB X + 12), .ref (xB X + 13), .ref (xB X + 14), .int 0, .int 1]), .inr (0, [.ref (xB X + 10), .ref (xB X + 11)]), .inl (xI X, 40, .inl (fillF 40 50 (fun _ => 0))), .inl (xI X, 10, .inl (hasI)), .inl (xI X, 10, .inl (fillF 10 (-1) (fun _ => 0))), .inl (xI X, 10, .inl (fillF 10 (-1) (fun _ => 0))), .inl (xI X, 20, .inl (fun _ => 0)), .inr (1, [.ref (xB X + 16), .ref (xB X + 17), .ref (xB X + 19), .ref (xB X + 20), .ref (xB X + 21), .int 0, .int 1]), .inr (0, [.ref (xB X + 17), .ref (xB X + 18)]), .inl (xI X, 40, .inl (fillF 40 50 (fun _ => 0))), .inl (xI X, 10, .inl (hasI)), .inl (xI X, 10, .inl (fillF 10 (-1) (fun _ => 0))), .inl (xI X, 10, .inl (fillF 10 (-1) (fun _ => 0))), .inl (xI X, 20, .inl (fun _ => 0)), .inr (0, [.ref (xB X + 3), .ref (xB X + 23)]), .inl (xI X, 10, .inl (hasI)), .inr (2, [.ref (xB X + 25), .int 0, .int 0, .int 0, .int 0]), .inl (xR X 0, 4, .inr (.inr (.inr (.inr f)))), .inr (0, [.ref (xB X + 3), .ref (xB X + 27)]), .inl (xI X, 10, .inl (hasI)), .inr (0, [.ref (xB X + 3), .ref (xB X + 29)]), .inl (xI X, 10, .inl (hasI)), .inr (0, [.ref (xB X + 3), .ref (xB X + 31)]), .inl (xI X, 10, .inl (hasI)), .inr (0, [.ref (xB X + 3), .ref (xB X + 33)]), .inl (xI X, 10, .inl (hasI)), .inr (4, [.ref (xB X + 35), .int 0, .int 0, .int 0, .int 0, .int 0]), .inl (xI X, 120, .inl (fun _ => 0)), .inl (xR X 1, 4, .inr (.inr (.inr (.inr g)))), .inr (3, [.ref (xB X + 38), .int 0, .int 0]), .inl (xI X, 40, .inl (fun _ => 0)), .inr (3, [.ref (xB X + 40), .int 0, .int 0]), .inl (xI X, 40, .inl (fun _ => 0)), .inr (3, [.ref (xB X + 42), .int 0, .int 0]), .inl (xI X, 40, .inl (fun _ => 0)), .inr (3, [.ref (xB X + 44), .int 0, .int 0]), .inl (xI X, 40, .inl (fun _ => 0)), .inl (xI X, 7, .inl (fun _ => 0)), .inr (6, [.ref (xB X + 47), .ref (xB X + 48), .ref (xB X + 49), .int 0, .ref (xB X + 50), .ref (xB X + 51), .int 0, .int 0, .int 0, .int 0, .int 0, .ref (xB X + 52), .ref (xB X + 53), .ref (xB X + 54), .ref (xB X + 55), .ref (xB X + 56)]), .inl (xI X, 92, .inl (rngF 52 62 (-1) (rngF 62 72 (-1) (rngF 12 52 50 (upd (upd (upd (upd (upd (upd (fun _ => 0) 0 20) 2 20) 4 2) 5 4) 6 900) 10 1))))), .inl (xI X, 92, .inl (fun _ => 0)), .inl (xI X, 92, .inl (fun _ => 0)), .inl (xI X, 7, .inl (fun _ => 0)), .inl (xI X, 120, .inl (fun _ => 0)), .inl (xI X, 3, .inl (fun _ => 0)), .inl (xI X, 4, .inl (fun _ => 0)), .inl (xI X, 4, .inl (fun _ => 0)), .inl (xI X, 160, .inl (fun _ => 0)), .inl (xI X, 40, .inl (fun _ => 0))]
set_option maxRecDepth 20000 in
set_option maxHeartbeats 4000000 in
theorem Mi38_eq (X : xC) : Mi245 X = mkM X S0 := by
  have h : Mi245 X = M38g X (va_up (va_up (va_up (va_up (fun _ => none) 0 (some (xB X + 26))) 1 (some (xB X + 28))) 2 (some (xB X + 30))) 3 (some (xB X + 32))) (va_up (va_up (va_up (va_up (fun _ => none) 0 (some (xB X + 37))) 1 (some (xB X + 39))) 2 (some (xB X + 41))) 3 (some (xB X + 43))) := rfl
  rw [h, e25r, e36r]
  rfl
theorem Inv0 : Inv 0 S0 := by
  refine ⟨⟨⟨?_, ?_, ?_, ?_, ?_⟩, ?_⟩, ⟨rfl, Or.inl rfl, fun h => absurd rfl h⟩, fun i hi => rfl, I_tp.none rfl rfl, ?_⟩
  · unfold Bd
    decide +kernel
  · decide +kernel
  · decide +kernel
  · decide +kernel
  · intro i hi
    have h0 : (S0 1 5).toInt = 0 := rfl
    rw [h0] at hi
    omega
  · decide +kernel
  · unfold I_sh
    decide +kernel
set_option maxRecDepth 20000 in
set_option maxHeartbeats 4000000 in
theorem law_sem {X : xC} {d b L : Nat} {xs : Nat → Int32} {sA : Nat → Nat} (hs : XTxt X sA) (hsc : XScr X b L xs) (hL : L ≤ 3072) : ∃ S', Sem X k_law (d + 9) 0 [some (.ref b), none, none, none] [] [] (some (.int 1)) (mkM X S') 57 1315 := by
  obtain ⟨S', h⟩ := law_run (xs := xs) hL 512 513 0 0 S0 (by omega) (by omega) (by omega) (by omega) Inv0
  rw [nI_0] at h
  refine ⟨S', ?_⟩
  refine ev_new (kc := 56) (ks := 1305) (ci := 5) (fs := [.null, .null, .null, .null, .null, .null, .null, .null, .null, .int 0]) d_law_0 rfl (TG_at 15 (by decide +kernel) (by decide +kernel)) (TG_at 16 (by decide +kernel) (by decide +kernel)) (TG_at 1 (by decide +kernel) (by decide +kernel)) dv_5 (c0 := 0) rfl ?_
  refine ev_dup d_law_3 rfl ?_
  refine ev_callI (As := []) (k1 := 45) (s1 := 675) (kc := 11) (ks := 630) d_law_4 (TG_at 17 (by decide +kernel) (by decide +kernel)) ik_S_init rfl rfl (fun v hv => by cases hv) (Nat.le_of_ble_eq_true rfl) (wi_S_217 (X := X) (d := d + 5)) ?_
  refine ev_astore_n d_law_7 (by decide) ?_
  refine ev_new (kc := 10) (ks := 614) (ci := 6) (fs := [.null, .null, .null, .int 0, .null, .null, .int 0, .int 0, .int 0, .int 0, .int 0, .null, .null, .null, .null, .null]) d_law_8 rfl (TG_at 645 (by decide +kernel) (by decide +kernel)) (TG_at 646 (by decide +kernel) (by decide +kernel)) (TG_at 8 (by decide +kernel) (by decide +kernel)) dv_6 (c0 := 46) rfl ?_
  refine ev_dup d_law_11 rfl ?_
  refine ev_callI (As := []) (k1 := 10) (s1 := 614) (kc := 0) (ks := 0) d_law_12 (TG_at 647 (by decide +kernel) (by decide +kernel)) ik_M_init rfl rfl (fun v hv => by cases hv) (Nat.le_of_ble_eq_true rfl) (wi_M_245 (X := X) (d := d + 7)) ?_
  refine ev_astore_n d_law_15 (by decide) ?_
  refine ev_iconst d_law_16 ?_
  refine ev_istore_n d_law_17 (by decide) ?_
  rw [Mi38_eq]
  exact w_law_L18 (d := d) hs hsc 513 0 S0 (true, S') h
