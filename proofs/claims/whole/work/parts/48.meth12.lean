/-! ===== feed; shifts ===== -/
section METH12
variable {N : Int} {S : St}
theorem bv_int (x : Int32) : x.toInt = if 2 * x.toBitVec.toNat < 4294967296 then (x.toBitVec.toNat : Int) else (x.toBitVec.toNat : Int) - 4294967296 := by
  show x.toBitVec.toInt = _
  rw [BitVec.toInt_eq_toNat_cond]
  rfl
theorem bv_lt (x : Int32) : x.toBitVec.toNat < 4294967296 := x.toBitVec.isLt
theorem sh_and {x : Int32} {s u : Int32} {k : Nat} (hk : k ≤ 24) (hs : (s.toBitVec.smod 32).toNat = k) (hu : ((u.toUInt32 &&& Int32.toUInt32 31).toBitVec % 32).toNat = k) : (x >>> s) &&& 255 = (x.toUInt32 >>> (u.toUInt32 &&& Int32.toUInt32 31)).toInt32 &&& 255 := by
  rw [pk_and (x >>> s) (m := 255) 8 (by decide), pk_and _ (m := 255) 8 (by decide)]
  congr 1
  rw [pk_ushr x u k hu]
  have h1 := pk_shr x s k hs
  have h2 := bv_int (x >>> s)
  have h3 := bv_int x
  have h4 := bv_lt (x >>> s)
  have h5 := bv_lt x
  rw [h1] at h2
  generalize (x >>> s).toBitVec.toNat = u1 at *
  generalize x.toBitVec.toNat = w at *
  generalize x.toInt = i at *
  rw [Int.shiftRight_eq_div_pow] at h2
  show u1 % 2 ^ 8 = w / 2 ^ k % 2 ^ 8
  have key : ((u1 % 256 : Nat) : Int) = ((w / 2 ^ k % 256 : Nat) : Int) := by
    have e1 : ((u1 : Int)) % 256 = (i / ((2 ^ k : Nat) : Int)) % 256 := by
      rw [h2]
      split <;> omega
    have e2 : (i / ((2 ^ k : Nat) : Int)) % 256 = ((w : Int) / ((2 ^ k : Nat) : Int)) % 256 := by
      rw [h3]
      split
      · rfl
      · have : (4294967296 : Int) = ((2 ^ k : Nat) : Int) * (256 * ((2 ^ (24 - k) : Nat) : Int)) := by
          have : (2 ^ k * (256 * 2 ^ (24 - k)) : Nat) = 4294967296 := by
            have h8 : (256 : Nat) = 2 ^ 8 := rfl
            rw [h8, ← Nat.pow_add, ← Nat.pow_add, show k + (8 + (24 - k)) = 32 by omega]
          have t2 := congrArg (Int.ofNat) this
          rw [Int.ofNat_eq_natCast, Int.natCast_mul, Int.natCast_mul] at t2
          exact t2.symm
        rw [this, Int.sub_eq_add_neg, ← Int.mul_neg, Int.add_mul_ediv_left _ _ (by have : 0 < 2 ^ k := Nat.two_pow_pos k; omega)]
        omega
    rw [Int.natCast_emod, Int.natCast_emod, Int.natCast_ediv]
    exact e1.trans e2
  exact Int.ofNat.inj key
def byV (v : Int32) (m : Nat) : Int32 := ((v).toUInt32 >>> (Int32.toUInt32 (8 * nI m) &&& Int32.toUInt32 31)).toInt32 &&& 255
theorem byV_m (v : Int32) {m : Nat} (hm : m < 4) : (v >>> ((8 * nI m) &&& 31)) &&& 255 = byV v m := by
  unfold byV
  rcases (show m = 0 ∨ m = 1 ∨ m = 2 ∨ m = 3 by omega) with rfl | rfl | rfl | rfl
  · exact sh_and (k := 0) (by omega) (by decide) (by decide)
  · exact sh_and (k := 8) (by omega) (by decide) (by decide)
  · exact sh_and (k := 16) (by omega) (by decide) (by decide)
  · exact sh_and (k := 24) (by omega) (by decide) (by decide)
theorem byV_b (v : Int32) (m : Nat) : 0 ≤ (byV v m).toInt ∧ (byV v m).toInt ≤ 255 := by
  unfold byV
  rw [pk_and _ (m := 255) 8 (by decide)]
  have : ∀ q : Nat, q % 2 ^ 8 < 256 := fun q => Nat.mod_lt _ (by decide)
  have h := this ((v.toUInt32 >>> ((8 * nI m).toUInt32 &&& Int32.toUInt32 31)).toInt32).toBitVec.toNat
  rw [nI_toInt (by omega)]
  omega
def fdV (v : Int32) : Nat → Nat → (Nat → Int32) → (Nat → Int32)
  | 0, _, f => f
  | m + 1, L, f => fdV v m (L + 1) (upd f L (byV v m))
theorem fdV_s {v : Int32} {m L : Nat} {f : Nat → Int32} : fdV v (m + 1) L f = fdV v m (L + 1) (upd f L (byV v m)) := by rw [fdV]
theorem fdV_ag {v : Int32} : ∀ (m L : Nat) (f g : Nat → Int32), (∀ i, i < L → g i = f i ∧ 0 ≤ (f i).toInt ∧ (f i).toInt ≤ 255) → ∀ i, i < L + m → fdV v m L g i = fdV v m L f i ∧ 0 ≤ (fdV v m L f i).toInt ∧ (fdV v m L f i).toInt ≤ 255 := by
  intro m
  induction m with
  | zero => intro L f g h i hi; exact h i (by omega)
  | succ m ih =>
    intro L f g h i hi
    rw [fdV_s, fdV_s]
    refine ih (L + 1) _ _ (fun q hq => ?_) i (by omega)
    simp only [upd_app]
    by_cases e : q = L
    · rw [if_pos e, if_pos e]
      exact ⟨rfl, byV_b v m⟩
    · rw [if_neg e, if_neg e]
      exact h q (by omega)
def tpS (S : St) (L : Nat) (f : Nat → Int32) : St := va_up (va_up S 34 (upd (S 34) 1 (nI L))) 35 f
def tpM (S : St) (L : Nat) (f : Nat → Int32) : St := va_up (va_up S 46 (upd (S 46) 6 (nI L))) 51 f
theorem tpS_1 {L : Nat} {f : Nat → Int32} : tpS S L f 34 1 = nI L := rfl
theorem tpM_6 {L : Nat} {f : Nat → Int32} : tpM S L f 46 6 = nI L := rfl
theorem tpS_p {L : Nat} {f : Nat → Int32} {x : Int32} : put (put (tpS S L f) 35 L x) 34 1 (nI L + 1) = tpS S (L + 1) (upd f L x) := by
  unfold tpS
  rw [put_vu, put_vu, vu_self, bx_uu, vu_ne _ _ (by decide), vu_self, upd_upd, vu_comm (by decide), bx_uu, nI_succ]
theorem tpM_p {L : Nat} {f : Nat → Int32} {x : Int32} : put (put (tpM S L f) 51 L x) 46 6 (nI L + 1) = tpM S (L + 1) (upd f L x) := by
  unfold tpM
  rw [put_vu, put_vu, vu_self, bx_uu, vu_ne _ _ (by decide), vu_self, upd_upd, vu_comm (by decide), bx_uu, nI_succ]
theorem s_fd_loop {v w : Int32} : ∀ (m n L : Nat) (f : Nat → Int32), L + m ≤ 120 → m + 2 ≤ n → f_S_feed_L40 n v w (nI m - 1) (tpS S L f) = some (nI (L + m), tpS S (L + m) (fdV v m L f)) := by
  intro m
  induction m with
  | zero =>
    intro n L f hL hn
    obtain ⟨n, rfl⟩ : ∃ n', n = n' + 1 := ⟨n - 1, by omega⟩
    rw [f_S_feed_L40, if_pos (show nI 0 - 1 < 0 by decide)]
    rfl
  | succ m ih =>
    intro n L f hL hn
    obtain ⟨n, rfl⟩ : ∃ n', n = n' + 1 := ⟨n - 1, by omega⟩
    have h120 : ¬ (120 : Int32) ≤ nI L := nI_ge (b := 120) (by omega) (by decide)
    have ep : ∀ x, f_P_append x (tpS S L f) = some (tpS S (L + 1) (upd f L x)) := by
      intro x
      unfold f_P_append
      rw [tpS_1, if_neg (nI_pos (by omega)), if_neg h120, if_pos (inb_n (by omega) (by omega)), nI_clamp (by omega)]
      show some (put (put (tpS S L f) 35 L x) 34 1 (put (tpS S L f) 35 L x 34 1 + 1)) = _
      have : put (tpS S L f) 35 L x 34 1 = nI L := by rw [put_vu, vu_ne _ _ (by decide)]; rfl
      rw [this, tpS_p]
    rw [f_S_feed_L40, nI_pre, if_neg (nI_pos (by omega)), ep, Option.bind_some, nI_m1, ih n (L + 1) _ (by omega) (by omega), fdV_s]
    rw [show L + 1 + m = L + (m + 1) by omega]
    rfl
theorem m_fd_loop {v w : Int32} : ∀ (m n L : Nat) (f : Nat → Int32), m ≤ 4 → L + m ≤ 120 → m + 2 ≤ n → f_M_feed_L36 n v w (nI m - 1) (tpM S L f) = some (nI (L + m), tpM S (L + m) (fdV v m L f)) := by
  intro m
  induction m with
  | zero =>
    intro n L f hm hL hn
    obtain ⟨n, rfl⟩ : ∃ n', n = n' + 1 := ⟨n - 1, by omega⟩
    rw [f_M_feed_L36, if_pos (show nI 0 - 1 < 0 by decide)]
    rfl
  | succ m ih =>
    intro n L f hm hL hn
    obtain ⟨n, rfl⟩ : ∃ n', n = n' + 1 := ⟨n - 1, by omega⟩
    rw [f_M_feed_L36, nI_pre, if_neg (nI_pos (by omega)), tpM_6, if_pos (inb_n (by omega) (by omega)), nI_clamp (by omega), byV_m v (by omega)]
    have e : put (tpM S L f) 51 L (byV v m) 46 6 = nI L := by rw [put_vu, vu_ne _ _ (by decide)]; rfl
    dsimp only
    rw [e, tpM_p, nI_m1, ih n (L + 1) _ (by omega) (by omega) (by omega), fdV_s]
    rw [show L + 1 + m = L + (m + 1) by omega]
theorem p_feed (p q : Int32) : Step2 N (f_S_feed p q) (f_M_feed p q) := by
  intro S h
  obtain ⟨t1, t2, t3⟩ := h.2.2.2.1
  unfold f_S_feed f_M_feed
  simp only [m_in, Option.bind_some, bI_0, s_f0, m_f0, s_f1, m_f1]
  by_cases h1 : q < 1
  · simp only [h1, if_true, inB_lo h1]
    exact ⟨_, _, _, rfl, rfl, (h.find 0).up28⟩
  · by_cases h2 : q ≤ 4
    · simp only [h1, h2, if_true, if_false, inB_ok h1 h2, if_neg tnf]
      obtain ⟨m, hm, rfl⟩ := nI_of2 (M := 4) (n := 4) (by decide) (x := q) (by rw [i_lt, i0]; rw [i_lt, i1] at h1; omega) h2
      obtain ⟨L, hL, eL⟩ := nI_of (x := S 34 1) (by rw [i_lt, i0]; omega)
      have hL2 : L ≤ 120 := by rw [eL, nI_toInt hL] at t2; omega
      rw [eL, nI_add]
      by_cases h3 : nI (L + m) ≤ 120
      · have h3' : L + m ≤ 120 := (nI_leI (a := L + m) (b := 120) (by omega) (by omega)).mp h3
        have e0 : tpS S L (S 35) = S := by
          unfold tpS
          rw [← eL, upd_same, vu_id, vu_id]
        have hs := s_fd_loop (S := S) (v := p) (w := nI m) m 200 L (S 35) h3' (by omega)
        rw [e0] at hs
        rw [if_pos h3]
        have em : tpM (tpS S (L + m) (fdV p m L (S 35))) L (S 51) = tpS S (L + m) (fdV p m L (S 35)) := by
          have e1 : tpS S (L + m) (fdV p m L (S 35)) 46 = S 46 := by
            unfold tpS
            rw [vu_ne _ _ (by decide), vu_ne _ _ (by decide)]
          have e2 : tpS S (L + m) (fdV p m L (S 35)) 51 = S 51 := by
            unfold tpS
            rw [vu_ne _ _ (by decide), vu_ne _ _ (by decide)]
          have e3 : va_up (tpS S (L + m) (fdV p m L (S 35))) 46 (S 46) = tpS S (L + m) (fdV p m L (S 35)) := by
            rw [← e1]; exact vu_id _ _
          unfold tpM
          rw [← eL, ← t1, e1, upd_same, e3, ← e2]
          exact vu_id _ _
        have hmm := m_fd_loop (S := tpS S (L + m) (fdV p m L (S 35))) (v := p) (w := nI m) m 200 L (S 51) hm h3' (by omega)
        rw [em] at hmm
        refine ⟨_, _, tpM (tpS S (L + m) (fdV p m L (S 35))) (L + m) (fdV p m L (S 51)), hs, ?_⟩
        · have e46 : tpS S (L + m) (fdV p m L (S 35)) 46 6 = nI L := by
            unfold tpS
            rw [vu_ne _ _ (by decide), vu_ne _ _ (by decide), t1, eL]
          rw [e46, nI_add, if_pos h3]
          refine ⟨hmm, ?_⟩
          have hr : ∀ c, c ≠ 34 → c ≠ 35 → c ≠ 46 → c ≠ 51 → tpM (tpS S (L + m) (fdV p m L (S 35))) (L + m) (fdV p m L (S 51)) c = S c := by
            intro c a1 a2 a3 a4
            unfold tpM tpS
            rw [vu_ne _ _ a4, vu_ne _ _ a3, vu_ne _ _ a2, vu_ne _ _ a1]
          have h28 := h.up28
          refine ⟨h28.1.of (hr _ (by decide) (by decide) (by decide) (by decide)) (hr _ (by decide) (by decide) (by decide) (by decide)) (hr _ (by decide) (by decide) (by decide) (by decide)) (hr _ (by decide) (by decide) (by decide) (by decide)) (hr _ (by decide) (by decide) (by decide) (by decide)) (hr _ (by decide) (by decide) (by decide) (by decide)) (fun i _ => by rw [hr 47 (by decide) (by decide) (by decide) (by decide)]),
            h28.2.1.of (hr _ (by decide) (by decide) (by decide) (by decide)) rfl (hr _ (by decide) (by decide) (by decide) (by decide)) (hr _ (by decide) (by decide) (by decide) (by decide)) (hr _ (by decide) (by decide) (by decide) (by decide)) (hr _ (by decide) (by decide) (by decide) (by decide)) (hr _ (by decide) (by decide) (by decide) (by decide)) (hr _ (by decide) (by decide) (by decide) (by decide)) (hr _ (by decide) (by decide) (by decide) (by decide)),
            h28.2.2.1.of (hr _ (by decide) (by decide) (by decide) (by decide)) (hr _ (by decide) (by decide) (by decide) (by decide)), ?_,
            h28.2.2.2.2.of (fun c h1 h2 => hr c (by omega) (by omega) (by omega) (by omega)) (hr _ (by decide) (by decide) (by decide) (by decide)) (hr _ (by decide) (by decide) (by decide) (by decide)) (hr _ (by decide) (by decide) (by decide) (by decide))⟩
          have f1 : tpM (tpS S (L + m) (fdV p m L (S 35))) (L + m) (fdV p m L (S 51)) 34 1 = nI (L + m) := rfl
          have f2 : tpM (tpS S (L + m) (fdV p m L (S 35))) (L + m) (fdV p m L (S 51)) 46 6 = nI (L + m) := rfl
          have f3 : tpM (tpS S (L + m) (fdV p m L (S 35))) (L + m) (fdV p m L (S 51)) 35 = fdV p m L (S 35) := by
            unfold tpM tpS
            rw [vu_ne _ _ (by decide), vu_ne _ _ (by decide), vu_self]
          have f4 : tpM (tpS S (L + m) (fdV p m L (S 35))) (L + m) (fdV p m L (S 51)) 51 = fdV p m L (S 51) := by
            unfold tpM
            rw [vu_self]
          unfold I_tp
          rw [f1, f2, f3, f4, nI_toInt (by omega)]
          refine ⟨rfl, by omega, fun i hi => ?_⟩
          refine fdV_ag m L (S 35) (S 51) (fun i hi => t3 i ?_) i (by omega)
          rw [eL, nI_toInt hL]
          omega
      · rw [if_neg h3]
        refine ⟨_, _, _, rfl, ?_, (h.find 1).up28⟩
        rw [fnS_ne (by decide), t1, eL, nI_add, if_neg h3]
    · simp only [h1, h2, if_false, inB_hi (Int32.not_le.mp h2), if_true]
      exact ⟨_, _, _, rfl, rfl, (h.find 0).up28⟩
end METH12
