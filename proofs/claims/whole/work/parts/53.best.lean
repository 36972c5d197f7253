/-! ===== best ===== -/
section METH17
variable {N : Int} {S : St}
abbrev Bo := Option (Int32 × Int32 × Nat)
def kf {α : Type} (F : Nat → α → α) : Nat → Nat → α → α
  | 0, _, o => o
  | m + 1, j, o => kf F m (j + 1) (F j o)
theorem kf_s {α : Type} {F : Nat → α → α} {m j : Nat} {o : α} : kf F (m + 1) j o = kf F m (j + 1) (F j o) := rfl
theorem kf_add {α : Type} {F : Nat → α → α} : ∀ (m q j : Nat) (o : α), kf F (m + q) j o = kf F q (j + m) (kf F m j o) := by
  intro m
  induction m with
  | zero => intro q j o; rw [Nat.zero_add]; rfl
  | succ m ih =>
    intro q j o
    rw [show m + 1 + q = (m + q) + 1 by omega, kf_s, kf_s, ih, show j + 1 + m = j + (m + 1) by omega]
theorem kf_mul {α : Type} {F : Nat → α → α} (q : Nat) : ∀ (m j : Nat) (o : α), kf F (m * q) (j * q) o = kf (fun k o => kf F q (k * q) o) m j o := by
  intro m
  induction m with
  | zero => intro j o; rw [Nat.zero_mul]; rfl
  | succ m ih =>
    intro j o
    rw [kf_s, ← ih (j + 1), Nat.add_mul, Nat.one_mul, Nat.add_comm, kf_add, Nat.add_mul, Nat.one_mul]
theorem kf_shift {α : Type} {F : Nat → α → α} (c : Nat) : ∀ (m j : Nat) (o : α), kf F m (c + j) o = kf (fun w o => F (c + w) o) m j o := by
  intro m
  induction m with
  | zero => intro j o; rfl
  | succ m ih =>
    intro j o
    rw [kf_s, kf_s, show c + j + 1 = c + (j + 1) by omega, ih]
theorem kf_cg {α : Type} {F G : Nat → α → α} : ∀ (m j : Nat) (o : α), (∀ w, j ≤ w → w < j + m → ∀ o, F w o = G w o) → kf F m j o = kf G m j o := by
  intro m
  induction m with
  | zero => intro j o _; rfl
  | succ m ih =>
    intro j o h
    rw [kf_s, kf_s, h j (by omega) (by omega), ih (j + 1) _ (fun w h1 h2 => h w (by omega) (by omega))]
theorem kf_id {α : Type} : ∀ (m j : Nat) (o : α), kf (fun _ o => o) m j o = o := by
  intro m
  induction m with
  | zero => intro j o; rfl
  | succ m ih => intro j o; rw [kf_s, ih]
def wgO (o : Bo) (g d : Int32) (w : Nat) : Bo := match o with
  | none => some (g, d, w)
  | some (g0, d0, w0) => if g0 < g then some (g, d, w) else (if g = g0 then (if d0 ≤ d then some (g0, d0, w0) else some (g, d, w)) else some (g0, d0, w0))
def runV (fm : Nat → Int32) : Nat → (Nat → Int32) → Nat → Option (Nat → Int32)
  | 0, a, _ => some a
  | l + 1, a, w => if canB a (nI (w / 8 ^ l)) = true then runV fm l (carV fm a (nI (w / 8 ^ l))) (w % 8 ^ l) else none
def stpO (a0 : Nat → Int32) (r : Option (Nat → Int32)) (w : Nat) (o : Bo) : Bo := match r with
  | some b => wgO o (b 0 - a0 0) (b 8 - a0 8) w
  | none => o
def foV (fm a0 : Nat → Int32) : Nat → (Nat → Int32) → Nat → Bo → Bo
  | 0, a, p, o => wgO o (a 0 - a0 0) (a 8 - a0 8) p
  | l + 1, a, p, o => kf (fun k o => if canB a (nI k) = true then foV fm a0 l (carV fm a (nI k)) (p * 8 + k) o else o) 8 0 o
theorem foV_blk {fm a0 : Nat → Int32} : ∀ (l : Nat) (a : Nat → Int32) (p : Nat) (o : Bo), foV fm a0 l a p o = kf (fun w o => stpO a0 (runV fm l a w) (p * 8 ^ l + w) o) (8 ^ l) 0 o := by
  intro l
  induction l with
  | zero =>
    intro a p o
    rw [foV, Nat.pow_zero, kf_s]
    show _ = kf _ 0 1 (wgO o (a 0 - a0 0) (a 8 - a0 8) (p * 1 + 0))
    rw [Nat.mul_one, Nat.add_zero]
    rfl
  | succ l ih =>
    intro a p o
    have h8 : 0 < 8 ^ l := Nat.pow_pos (by decide)
    have hm := kf_mul (F := fun w o => stpO a0 (runV fm (l + 1) a w) (p * 8 ^ (l + 1) + w) o) (8 ^ l) 8 0 o
    rw [Nat.zero_mul] at hm
    rw [foV, Nat.pow_succ, Nat.mul_comm (8 ^ l) 8]
    rw [Nat.pow_succ, Nat.mul_comm (8 ^ l) 8] at hm
    rw [hm]
    refine kf_cg 8 0 o (fun k _ _ o => ?_)
    have hsh : kf (fun w o => stpO a0 (runV fm (l + 1) a w) (p * (8 * 8 ^ l) + w) o) (8 ^ l) (k * 8 ^ l) o = kf (fun w o => stpO a0 (runV fm (l + 1) a (k * 8 ^ l + w)) (p * (8 * 8 ^ l) + (k * 8 ^ l + w)) o) (8 ^ l) 0 o := kf_shift (F := fun w o => stpO a0 (runV fm (l + 1) a w) (p * (8 * 8 ^ l) + w) o) (k * 8 ^ l) (8 ^ l) 0 o
    rw [hsh]
    have e1 : ∀ w, w < 8 ^ l → (k * 8 ^ l + w) / 8 ^ l = k := by
      intro w hw
      rw [Nat.mul_comm, Nat.mul_add_div h8, Nat.div_eq_of_lt hw, Nat.add_zero]
    have e2 : ∀ w, w < 8 ^ l → (k * 8 ^ l + w) % 8 ^ l = w := by
      intro w hw
      rw [Nat.mul_comm, Nat.mul_add_mod, Nat.mod_eq_of_lt hw]
    by_cases hc : canB a (nI k) = true
    · rw [if_pos hc, ih]
      refine kf_cg _ 0 o (fun w _ hw o => ?_)
      have hw' : w < 8 ^ l := by omega
      have e3 : (p * 8 + k) * 8 ^ l + w = p * (8 * 8 ^ l) + (k * 8 ^ l + w) := by
        rw [Nat.add_mul, Nat.mul_assoc, Nat.add_assoc]
      rw [runV, e1 w hw', e2 w hw', if_pos hc, e3]
    · rw [if_neg hc]
      rw [kf_cg (G := fun _ o => o) _ 0 o (fun w _ hw o => ?_), kf_id]
      have hw' : w < 8 ^ l := by omega
      rw [runV, e1 w hw', if_neg hc]
      rfl
def dg (w : Nat) : Nat := w / 64 * 100 + w / 8 % 8 * 10 + w % 8
theorem dg_s {p k : Nat} (hp : p < 64) (hk : k < 8) : dg (p * 8 + k) = dg p * 10 + k := by unfold dg; omega
/-- the search's cell -/
def Hs (S : St) (o : Bo) : Prop := match o with
  | none => S 24 1 = 0
  | some (g, d, w) => S 24 1 = 1 ∧ S 24 2 = g ∧ S 24 3 = d ∧ S 24 4 = nI (dg w)
theorem Hs.of {T : St} {o : Bo} (h : Hs S o) (e : T 24 = S 24) : Hs T o := by
  cases o with
  | none => show T 24 1 = 0; rw [e]; exact h
  | some x => obtain ⟨g, d, w⟩ := x; show T 24 1 = 1 ∧ T 24 2 = g ∧ T 24 3 = d ∧ T 24 4 = nI (dg w); rw [e]; exact h
theorem l_weigh {c hh w : Nat} {o : Bo} (h : Hs S o) : ∃ T, f_H_weigh c 3 hh (nI (dg w)) S = some T ∧ Hs T (wgO o (S hh 0 - S 27 0) (S hh 8 - S 27 8) w) ∧ ∀ q, q ≠ 24 → T q = S q := by
  have hp : ∀ (g d : Int32), ∃ T, some (put (put (put (put S 24 1 1) 24 2 g) 24 3 d) 24 4 (nI (dg w))) = some T ∧ Hs T (some (g, d, w)) ∧ ∀ q, q ≠ 24 → T q = S q := by
    intro g d
    refine ⟨_, rfl, ⟨rfl, rfl, rfl, rfl⟩, fun q hq => ?_⟩
    rw [put_vu, vu_ne _ _ hq, put_vu, vu_ne _ _ hq, put_vu, vu_ne _ _ hq, put_vu, vu_ne _ _ hq]
  unfold f_H_weigh
  rw [l_since0, Option.bind_some]
  dsimp only
  rw [l_since8, Option.bind_some]
  dsimp only
  cases o with
  | none =>
    have h' : S 24 1 = 0 := h
    rw [if_pos h']
    exact hp _ _
  | some x =>
    obtain ⟨g0, d0, w0⟩ := x
    obtain ⟨h1, h2, h3, h4⟩ := h
    have hsame : ∃ T, some S = some T ∧ Hs T (some (g0, d0, w0)) ∧ ∀ q, q ≠ 24 → T q = S q := ⟨S, rfl, ⟨h1, h2, h3, h4⟩, fun _ _ => rfl⟩
    unfold wgO
    simp only [h1, h2, h3, if_neg (show ¬ (1 : Int32) = 0 by decide)]
    by_cases q1 : g0 < S hh 0 - S 27 0
    · rw [if_pos q1, if_pos q1]
      exact hp _ _
    · rw [if_neg q1, if_neg q1]
      by_cases q2 : S hh 0 - S 27 0 = g0
      · rw [if_pos q2, if_pos q2]
        by_cases q3 : d0 ≤ S hh 8 - S 27 8
        · rw [if_pos q3, if_pos q3]
          exact hsame
        · rw [if_neg q3, if_neg q3]
          exact hp _ _
      · rw [if_neg q2, if_neg q2]
        exact hsame
theorem l_try3 {nn p : Nat} {o : Bo} {a a0 : Nat → Int32} (hn : nn = 3) (h27 : ag (S 27) a0) (ha : ag (S 33) a) (h : Hs S o) : ∃ T, f_H_tryRows_3 (nI nn) (nI (dg p)) S = some T ∧ Hs T (foV (S 3) a0 (nn - 3) a p o) ∧ ∀ q, q ≠ 24 → (q ≤ 33 ∨ 33 < q) → T q = S q := by
  subst hn
  obtain ⟨T, e, hT, hq⟩ := l_weigh (c := 32) (hh := 33) (w := p) h
  rw [ha 0 (by decide), ha 8 (by decide), h27 0 (by decide), h27 8 (by decide)] at hT
  refine ⟨T, ?_, hT, fun q a _ => hq q a⟩
  unfold f_H_tryRows_3
  rw [if_neg (show ¬ (3 : Int32) < nI 3 by decide), e, Option.bind_some]
theorem l_try2_loop {nn p : Nat} {a a0 : Nat → Int32} (hn3 : nn = 3) (hp : p < 64) (hb : Bd a N) (hN : N < 1990000000) : ∀ (m f j : Nat) (S : St) (o : Bo), j + m = 8 → m + 2 ≤ f → ag (S 27) a0 → ag (S 31) a → Hs S o → ∃ T, f_H_tryRows_2_L30 f (nI nn) (nI (dg p)) (nI j) S = some T ∧ Hs T (kf (fun k o => if canB a (nI k) = true then foV (S 3) a0 (nn - 3) (carV (S 3) a (nI k)) (p * 8 + k) o else o) m j o) ∧ ∀ q, q ≠ 24 → (q ≤ 31 ∨ 33 < q) → T q = S q := by
  intro m
  induction m with
  | zero =>
    intro f j S o hj hf h27 ha h
    obtain ⟨f, rfl⟩ : ∃ n', f = n' + 1 := ⟨f - 1, by omega⟩
    have : j = 8 := by omega
    subst this
    refine ⟨S, ?_, h, fun _ _ _ => rfl⟩
    rw [f_H_tryRows_2_L30, if_pos (show (8 : Int32) ≤ nI 8 by decide)]
  | succ m ih =>
    intro f j S o hj hf h27 ha h
    obtain ⟨f, rfl⟩ : ∃ n', f = n' + 1 := ⟨f - 1, by omega⟩
    have h8 : ¬ (8 : Int32) ≤ nI j := nI_ge (b := 8) (by omega) (by decide)
    have hk : 0 ≤ nI j ∧ nI j < 8 := ⟨nI_pos' (by omega), nI_lt (b := 8) (by omega) (by decide)⟩
    have hac : ag (cp10 (S 31) (S 33)) a := (cp10_ag _ _).tr ha
    have hbc : Bd (cp10 (S 31) (S 33)) N := Bd_ag hac.sy hb
    have hca := car_ag (show agF (S 3) (S 3) from fun _ _ => rfl) hac (nI j)
    rw [f_H_tryRows_2_L30, if_neg h8, l_become, Option.bind_some, l_carriesOut (c := 32) (g := 3) (h := 33) (by decide) hk (by rw [vu_self]; exact hbc.b0) (by rw [vu_self]; exact hbc.b1), Option.bind_some, vu_self, vu_ne _ _ (show 3 ≠ 33 by decide), can_ag hac, kf_s]
    simp only [bI_0]
    by_cases hc : canB a (nI j) = true
    · rw [if_neg (by rw [hc]; decide), if_pos hc, if_pos hc, bx_uu]
      have ed : nI (dg p) * 10 + nI j = nI (dg (p * 8 + j)) := by
        rw [dg_s (by omega) (by omega), show (10 : Int32) = nI 10 from rfl, pk_mul, nI_add]
      rw [ed]
      obtain ⟨T, e1, e2, e3⟩ := l_try3 (nn := nn) (S := va_up S 33 (carV (S 3) (cp10 (S 31) (S 33)) (nI j))) (p := p * 8 + j) (a := carV (S 3) a (nI j)) (a0 := a0) hn3 (by rw [vu_ne _ _ (by decide)]; exact h27) (by rw [vu_self]; exact hca) (h.of (vu_ne _ _ (by decide)))
      rw [vu_ne _ _ (show 3 ≠ 33 by decide)] at e2
      rw [e1, Option.bind_some, ← nI_succ]
      have t3 : T 3 = S 3 := by rw [e3 3 (by decide) (by decide), vu_ne _ _ (by decide)]
      have t27 : T 27 = S 27 := by rw [e3 27 (by decide) (by decide), vu_ne _ _ (by decide)]
      have th : T 31 = S 31 := by rw [e3 31 (by decide) (by decide), vu_ne _ _ (by decide)]
      obtain ⟨U, u1, u2, u3⟩ := ih f (j + 1) T _ (by omega) (by omega) (by rw [t27]; exact h27) (by rw [th]; exact ha) e2
      rw [t3] at u2
      refine ⟨U, u1, u2, fun q q1 q2 => ?_⟩
      rw [u3 q q1 q2, e3 q q1 (by omega), vu_ne _ _ (by omega)]
    · rw [if_pos (by simpa using hc), if_neg hc, if_neg hc, ← nI_succ]
      obtain ⟨U, u1, u2, u3⟩ := ih f (j + 1) (va_up S 33 (cp10 (S 31) (S 33))) o (by omega) (by omega) (by rw [vu_ne _ _ (by decide)]; exact h27) (by rw [vu_ne _ _ (by decide)]; exact ha) (h.of (vu_ne _ _ (by decide)))
      rw [vu_ne _ _ (show 3 ≠ 33 by decide)] at u2
      refine ⟨U, u1, u2, fun q q1 q2 => ?_⟩
      rw [u3 q q1 q2, vu_ne _ _ (by omega)]
theorem l_try2 {nn p : Nat} {o : Bo} {a a0 : Nat → Int32} (hn1 : 2 ≤ nn) (hn2 : nn ≤ 3) (hp : p < 64) (hb : Bd a N) (hN : N < 1990000000) (h27 : ag (S 27) a0) (ha : ag (S 31) a) (h : Hs S o) : ∃ T, f_H_tryRows_2 (nI nn) (nI (dg p)) S = some T ∧ Hs T (foV (S 3) a0 (nn - 2) a p o) ∧ ∀ q, q ≠ 24 → (q ≤ 31 ∨ 33 < q) → T q = S q := by
  unfold f_H_tryRows_2
  by_cases hw : nn = 2
  · subst hw
    obtain ⟨T, e, hT, hq⟩ := l_weigh (c := 30) (hh := 31) (w := p) h
    rw [ha 0 (by decide), ha 8 (by decide), h27 0 (by decide), h27 8 (by decide)] at hT
    refine ⟨T, ?_, hT, fun q a _ => hq q a⟩
    rw [if_neg (show ¬ (2 : Int32) < nI 2 by decide), e, Option.bind_some]
  · obtain ⟨T, e, hT, hq⟩ := l_try2_loop (nn := nn) (a := a) (a0 := a0) (N := N) (by omega) hp hb hN 8 200 0 S o (by omega) (by omega) h27 ha h
    rw [nI_0] at e
    have en : nn - 2 = (nn - 3) + 1 := by omega
    refine ⟨T, ?_, ?_, hq⟩
    · rw [if_pos (show (2 : Int32) < nI nn from nI_lt (a := 2) (by omega) (by omega))]
      exact e
    · rw [en, foV]
      exact hT
theorem l_try1_loop {nn p : Nat} {a a0 : Nat → Int32} (hnl : 1 < nn) (hn3 : nn ≤ 3) (hp : p < 8) (hb : Bd a N) (hN : N < 1980000000) : ∀ (m f j : Nat) (S : St) (o : Bo), j + m = 8 → m + 2 ≤ f → ag (S 27) a0 → ag (S 29) a → Hs S o → ∃ T, f_H_tryRows_1_L30 f (nI nn) (nI (dg p)) (nI j) S = some T ∧ Hs T (kf (fun k o => if canB a (nI k) = true then foV (S 3) a0 (nn - 2) (carV (S 3) a (nI k)) (p * 8 + k) o else o) m j o) ∧ ∀ q, q ≠ 24 → (q ≤ 29 ∨ 33 < q) → T q = S q := by
  intro m
  induction m with
  | zero =>
    intro f j S o hj hf h27 ha h
    obtain ⟨f, rfl⟩ : ∃ n', f = n' + 1 := ⟨f - 1, by omega⟩
    have : j = 8 := by omega
    subst this
    refine ⟨S, ?_, h, fun _ _ _ => rfl⟩
    rw [f_H_tryRows_1_L30, if_pos (show (8 : Int32) ≤ nI 8 by decide)]
  | succ m ih =>
    intro f j S o hj hf h27 ha h
    obtain ⟨f, rfl⟩ : ∃ n', f = n' + 1 := ⟨f - 1, by omega⟩
    have h8 : ¬ (8 : Int32) ≤ nI j := nI_ge (b := 8) (by omega) (by decide)
    have hk : 0 ≤ nI j ∧ nI j < 8 := ⟨nI_pos' (by omega), nI_lt (b := 8) (by omega) (by decide)⟩
    have hac : ag (cp10 (S 29) (S 31)) a := (cp10_ag _ _).tr ha
    have hbc : Bd (cp10 (S 29) (S 31)) N := Bd_ag hac.sy hb
    have hca := car_ag (show agF (S 3) (S 3) from fun _ _ => rfl) hac (nI j)
    rw [f_H_tryRows_1_L30, if_neg h8, l_become, Option.bind_some, l_carriesOut (c := 30) (g := 3) (h := 31) (by decide) hk (by rw [vu_self]; exact hbc.b0) (by rw [vu_self]; exact hbc.b1), Option.bind_some, vu_self, vu_ne _ _ (show 3 ≠ 31 by decide), can_ag hac, kf_s]
    simp only [bI_0]
    by_cases hc : canB a (nI j) = true
    · rw [if_neg (by rw [hc]; decide), if_pos hc, if_pos hc, bx_uu]
      have ed : nI (dg p) * 10 + nI j = nI (dg (p * 8 + j)) := by
        rw [dg_s (by omega) (by omega), show (10 : Int32) = nI 10 from rfl, pk_mul, nI_add]
      rw [ed]
      obtain ⟨T, e1, e2, e3⟩ := l_try2 (nn := nn) (S := va_up S 31 (carV (S 3) (cp10 (S 29) (S 31)) (nI j))) (p := p * 8 + j) (a := carV (S 3) a (nI j)) (a0 := a0) (N := N + 1440) (by omega) (by omega) (by omega) (Bd_car hb (by omega)) (by omega) (by rw [vu_ne _ _ (by decide)]; exact h27) (by rw [vu_self]; exact hca) (h.of (vu_ne _ _ (by decide)))
      rw [vu_ne _ _ (show 3 ≠ 31 by decide)] at e2
      rw [e1, Option.bind_some, ← nI_succ]
      have t3 : T 3 = S 3 := by rw [e3 3 (by decide) (by decide), vu_ne _ _ (by decide)]
      have t27 : T 27 = S 27 := by rw [e3 27 (by decide) (by decide), vu_ne _ _ (by decide)]
      have th : T 29 = S 29 := by rw [e3 29 (by decide) (by decide), vu_ne _ _ (by decide)]
      obtain ⟨U, u1, u2, u3⟩ := ih f (j + 1) T _ (by omega) (by omega) (by rw [t27]; exact h27) (by rw [th]; exact ha) e2
      rw [t3] at u2
      refine ⟨U, u1, u2, fun q q1 q2 => ?_⟩
      rw [u3 q q1 q2, e3 q q1 (by omega), vu_ne _ _ (by omega)]
    · rw [if_pos (by simpa using hc), if_neg hc, if_neg hc, ← nI_succ]
      obtain ⟨U, u1, u2, u3⟩ := ih f (j + 1) (va_up S 31 (cp10 (S 29) (S 31))) o (by omega) (by omega) (by rw [vu_ne _ _ (by decide)]; exact h27) (by rw [vu_ne _ _ (by decide)]; exact ha) (h.of (vu_ne _ _ (by decide)))
      rw [vu_ne _ _ (show 3 ≠ 31 by decide)] at u2
      refine ⟨U, u1, u2, fun q q1 q2 => ?_⟩
      rw [u3 q q1 q2, vu_ne _ _ (by omega)]
theorem l_try1 {nn p : Nat} {o : Bo} {a a0 : Nat → Int32} (hn1 : 1 ≤ nn) (hn2 : nn ≤ 3) (hp : p < 8) (hb : Bd a N) (hN : N < 1980000000) (h27 : ag (S 27) a0) (ha : ag (S 29) a) (h : Hs S o) : ∃ T, f_H_tryRows_1 (nI nn) (nI (dg p)) S = some T ∧ Hs T (foV (S 3) a0 (nn - 1) a p o) ∧ ∀ q, q ≠ 24 → (q ≤ 29 ∨ 33 < q) → T q = S q := by
  unfold f_H_tryRows_1
  by_cases hw : nn = 1
  · subst hw
    obtain ⟨T, e, hT, hq⟩ := l_weigh (c := 28) (hh := 29) (w := p) h
    rw [ha 0 (by decide), ha 8 (by decide), h27 0 (by decide), h27 8 (by decide)] at hT
    refine ⟨T, ?_, hT, fun q a _ => hq q a⟩
    rw [if_neg (show ¬ (1 : Int32) < nI 1 by decide), e, Option.bind_some]
  · obtain ⟨T, e, hT, hq⟩ := l_try1_loop (nn := nn) (a := a) (a0 := a0) (N := N) (by omega) (by omega) hp hb hN 8 200 0 S o (by omega) (by omega) h27 ha h
    rw [nI_0] at e
    have en : nn - 1 = (nn - 2) + 1 := by omega
    refine ⟨T, ?_, ?_, hq⟩
    · rw [if_pos (show (1 : Int32) < nI nn from nI_lt (a := 1) (by omega) (by omega))]
      exact e
    · rw [en, foV]
      exact hT
theorem l_try0_loop {nn p : Nat} {a a0 : Nat → Int32} (hnl : 0 < nn) (hn3 : nn ≤ 3) (hp : p < 1) (hb : Bd a N) (hN : N < 1970000000) : ∀ (m f j : Nat) (S : St) (o : Bo), j + m = 8 → m + 2 ≤ f → ag (S 27) a0 → ag (S 27) a → Hs S o → ∃ T, f_H_tryRows_0_L30 f (nI nn) (nI (dg p)) (nI j) S = some T ∧ Hs T (kf (fun k o => if canB a (nI k) = true then foV (S 3) a0 (nn - 1) (carV (S 3) a (nI k)) (p * 8 + k) o else o) m j o) ∧ ∀ q, q ≠ 24 → (q ≤ 27 ∨ 33 < q) → T q = S q := by
  intro m
  induction m with
  | zero =>
    intro f j S o hj hf h27 ha h
    obtain ⟨f, rfl⟩ : ∃ n', f = n' + 1 := ⟨f - 1, by omega⟩
    have : j = 8 := by omega
    subst this
    refine ⟨S, ?_, h, fun _ _ _ => rfl⟩
    rw [f_H_tryRows_0_L30, if_pos (show (8 : Int32) ≤ nI 8 by decide)]
  | succ m ih =>
    intro f j S o hj hf h27 ha h
    obtain ⟨f, rfl⟩ : ∃ n', f = n' + 1 := ⟨f - 1, by omega⟩
    have h8 : ¬ (8 : Int32) ≤ nI j := nI_ge (b := 8) (by omega) (by decide)
    have hk : 0 ≤ nI j ∧ nI j < 8 := ⟨nI_pos' (by omega), nI_lt (b := 8) (by omega) (by decide)⟩
    have hac : ag (cp10 (S 27) (S 29)) a := (cp10_ag _ _).tr ha
    have hbc : Bd (cp10 (S 27) (S 29)) N := Bd_ag hac.sy hb
    have hca := car_ag (show agF (S 3) (S 3) from fun _ _ => rfl) hac (nI j)
    rw [f_H_tryRows_0_L30, if_neg h8, l_become, Option.bind_some, l_carriesOut (c := 28) (g := 3) (h := 29) (by decide) hk (by rw [vu_self]; exact hbc.b0) (by rw [vu_self]; exact hbc.b1), Option.bind_some, vu_self, vu_ne _ _ (show 3 ≠ 29 by decide), can_ag hac, kf_s]
    simp only [bI_0]
    by_cases hc : canB a (nI j) = true
    · rw [if_neg (by rw [hc]; decide), if_pos hc, if_pos hc, bx_uu]
      have ed : nI (dg p) * 10 + nI j = nI (dg (p * 8 + j)) := by
        rw [dg_s (by omega) (by omega), show (10 : Int32) = nI 10 from rfl, pk_mul, nI_add]
      rw [ed]
      obtain ⟨T, e1, e2, e3⟩ := l_try1 (nn := nn) (S := va_up S 29 (carV (S 3) (cp10 (S 27) (S 29)) (nI j))) (p := p * 8 + j) (a := carV (S 3) a (nI j)) (a0 := a0) (N := N + 1440) (by omega) (by omega) (by omega) (Bd_car hb (by omega)) (by omega) (by rw [vu_ne _ _ (by decide)]; exact h27) (by rw [vu_self]; exact hca) (h.of (vu_ne _ _ (by decide)))
      rw [vu_ne _ _ (show 3 ≠ 29 by decide)] at e2
      rw [e1, Option.bind_some, ← nI_succ]
      have t3 : T 3 = S 3 := by rw [e3 3 (by decide) (by decide), vu_ne _ _ (by decide)]
      have t27 : T 27 = S 27 := by rw [e3 27 (by decide) (by decide), vu_ne _ _ (by decide)]
      have th : T 27 = S 27 := by rw [e3 27 (by decide) (by decide), vu_ne _ _ (by decide)]
      obtain ⟨U, u1, u2, u3⟩ := ih f (j + 1) T _ (by omega) (by omega) (by rw [t27]; exact h27) (by rw [th]; exact ha) e2
      rw [t3] at u2
      refine ⟨U, u1, u2, fun q q1 q2 => ?_⟩
      rw [u3 q q1 q2, e3 q q1 (by omega), vu_ne _ _ (by omega)]
    · rw [if_pos (by simpa using hc), if_neg hc, if_neg hc, ← nI_succ]
      obtain ⟨U, u1, u2, u3⟩ := ih f (j + 1) (va_up S 29 (cp10 (S 27) (S 29))) o (by omega) (by omega) (by rw [vu_ne _ _ (by decide)]; exact h27) (by rw [vu_ne _ _ (by decide)]; exact ha) (h.of (vu_ne _ _ (by decide)))
      rw [vu_ne _ _ (show 3 ≠ 29 by decide)] at u2
      refine ⟨U, u1, u2, fun q q1 q2 => ?_⟩
      rw [u3 q q1 q2, vu_ne _ _ (by omega)]
theorem l_try0 {nn p : Nat} {o : Bo} {a a0 : Nat → Int32} (hn1 : 1 ≤ nn) (hn2 : nn ≤ 3) (hp : p < 1) (hb : Bd a N) (hN : N < 1970000000) (h27 : ag (S 27) a0) (ha : ag (S 27) a) (h : Hs S o) : ∃ T, f_H_tryRows_0 (nI nn) (nI (dg p)) S = some T ∧ Hs T (foV (S 3) a0 (nn - 0) a p o) ∧ ∀ q, q ≠ 24 → (q ≤ 27 ∨ 33 < q) → T q = S q := by
  unfold f_H_tryRows_0
  obtain ⟨T, e, hT, hq⟩ := l_try0_loop (nn := nn) (a := a) (a0 := a0) (N := N) (by omega) (by omega) hp hb hN 8 200 0 S o (by omega) (by omega) h27 ha h
  rw [nI_0] at e
  have en : nn - 0 = (nn - 1) + 1 := by omega
  refine ⟨T, ?_, ?_, hq⟩
  · rw [if_pos (show (0 : Int32) < nI nn from nI_lt (a := 0) (by omega) (by omega))]
    exact e
  · rw [en, foV]
    exact hT
end METH17
