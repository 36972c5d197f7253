/-! ===== the words ===== -/
section WORDS
variable {b : Nat → Int32} {L : Nat}
/-- do the bytes from st on spell the word, from its letter i on -/
def spw (b : Nat → Int32) (w st : Nat) : Nat → Nat → Bool
  | 0, _ => true
  | m + 1, i => if b (st + i) = wc w i then spw b w st m (i + 1) else false
theorem spw_s {w st m i : Nat} : spw b w st (m + 1) i = if b (st + i) = wc w i then spw b w st m (i + 1) else false := by rw [spw]
theorem wl_n (w : Nat) : wl w = nI (wn w) := rfl
theorem nI_sub {a c : Nat} (h : a ≤ c) : nI c - nI a = nI (c - a) := by
  have e : nI c = nI (c - a) + nI a := by rw [nI_add]; congr 1; omega
  rw [e, Int32.add_sub_cancel]
theorem s_spw {S : St} {st w : Nat} (h3 : S 34 3 = nI st) (h35 : S 35 = b) (hw : st + wn w ≤ 120) : ∀ (m n i : Nat), i + m = wn w → m + 1 ≤ n → f_P_spells_L20 w n (nI i) S = some (spw b w st m i, S) := by
  intro m
  induction m with
  | zero =>
    intro n i hi hn
    obtain ⟨n, rfl⟩ : ∃ n', n = n' + 1 := ⟨n - 1, by omega⟩
    rw [f_P_spells_L20, wl_n, if_pos (nI_le (by omega) (by omega))]
    rfl
  | succ m ih =>
    intro n i hi hn
    obtain ⟨n, rfl⟩ : ∃ n', n = n' + 1 := ⟨n - 1, by omega⟩
    rw [f_P_spells_L20, wl_n, if_neg (nI_ge (by omega) (by omega)), h3, nI_add, if_pos (inb_n (by omega) (by omega)), if_pos (inb_n (by omega) (by omega)), nI_clamp (show st + i < 2 ^ 31 by omega), nI_clamp (show i < 2 ^ 31 by omega), h35, spw_s]
    by_cases q : b (st + i) = wc w i
    · rw [if_pos q, if_pos q, nI_1]
      exact ih n (i + 1) (by omega) (by omega)
    · rw [if_neg q, if_neg q]
theorem m_spF {T : St} {w n : Nat} {y : Int32} : f_M_isWord_L32 w (n + 1) false y T = some (false, T) := by
  rw [f_M_isWord_L32, if_pos (show bI false = 0 from rfl)]
  split <;> rfl
theorem m_spw {T : St} {st w : Nat} (h9 : T 46 9 = nI st) (h51 : ∀ i, i < L → T 51 i = b i) (hL : L ≤ 120) (hw : st + wn w ≤ L) : ∀ (m n i : Nat), i + m = wn w → m + 2 ≤ n → f_M_isWord_L32 w n true (nI i) T = some (spw b w st m i, T) := by
  intro m
  induction m with
  | zero =>
    intro n i hi hn
    obtain ⟨n, rfl⟩ : ∃ n', n = n' + 1 := ⟨n - 1, by omega⟩
    rw [f_M_isWord_L32, wl_n, if_pos (nI_le (by omega) (by omega))]
    rfl
  | succ m ih =>
    intro n i hi hn
    obtain ⟨n, rfl⟩ : ∃ n', n = n' + 1 := ⟨n - 1, by omega⟩
    rw [f_M_isWord_L32, wl_n, if_neg (nI_ge (by omega) (by omega)), if_neg (show ¬ bI true = 0 by decide), h9, nI_add, if_pos (inb_n (by omega) (by omega)), if_pos (inb_n (by omega) (by omega)), nI_clamp (show st + i < 2 ^ 31 by omega), nI_clamp (show i < 2 ^ 31 by omega), h51 (st + i) (by omega), spw_s]
    by_cases q : b (st + i) = wc w i
    · simp only [q, if_true]
      rw [nI_1]
      exact ih n (i + 1) (by omega) (by omega)
    · simp only [q, if_false]
      obtain ⟨n, rfl⟩ : ∃ n', n = n' + 1 := ⟨n - 1, by omega⟩
      exact m_spF
/-- is the token the word w -/
def wd (b : Nat → Int32) (st e w : Nat) : Bool := if wn w = e - st then spw b w st (wn w) 0 else false
theorem s_spells {S T : St} {k : Int32} {st e w : Nat} (hB : TB b L) (h : TR b L S T k st e) (hw : w < 14) : f_P_spells w S = some (wd b st e w, S) := by
  obtain ⟨⟨h1, h2, h3, h4, h5, h6, h7⟩, h8, h9, h10, h11, h12, h13⟩ := h
  have hn := wn_lt ⟨w, hw⟩
  dsimp only at hn
  have hL := hB.1
  unfold f_P_spells wd
  rw [h5, h11, wl_n, nI_sub h8]
  by_cases q : wn w = e - st
  · rw [if_pos (congrArg nI q), if_pos q]
    have := s_spw (w := w) h11 h2 (by omega) (wn w) 200 0 (by omega) (by omega)
    rw [nI_0] at this
    exact this
  · rw [if_neg (fun z => q ((nI_eq (by omega) (by omega)).mp z)), if_neg q]
theorem m_isWord {S T : St} {st e w : Nat} (hB : TB b L) (h : TR b L S T 1 st e) (hw : w < 14) : f_M_isWord w T = some (wd b st e w, T) := by
  obtain ⟨⟨h1, h2, h3, h4, h5, h6, h7⟩, h8, h9, h10, h11, h12, h13⟩ := h
  have hn := wn_lt ⟨w, hw⟩
  dsimp only at hn
  have hL := hB.1
  unfold f_M_isWord wd
  rw [if_pos h10, h6, h12, wl_n, nI_sub h8]
  by_cases q : wn w = e - st
  · rw [if_pos (congrArg nI q).symm, if_pos q]
    have := m_spw (w := w) h12 h4 hL (by omega) (wn w) 200 0 (by omega) (by omega)
    rw [nI_0] at this
    exact this
  · rw [if_neg (fun z => q ((nI_eq (by omega) (by omega)).mp z).symm), if_neg q]
    exact m_spF
theorem m_isWordN {T : St} {w : Nat} (h : ¬ T 46 8 = 1) : f_M_isWord w T = some (false, T) := by
  unfold f_M_isWord
  rw [if_neg h]
  exact m_spF
theorem spw_all {w st : Nat} : ∀ (m i : Nat), spw b w st m i = true → ∀ j, i ≤ j → j < i + m → b (st + j) = wc w j := by
  intro m
  induction m with
  | zero => intro i _ j h1 h2; omega
  | succ m ih =>
    intro i h j h1 h2
    rw [spw_s] at h
    by_cases q : b (st + i) = wc w i
    · rw [if_pos q] at h
      by_cases e : j = i
      · rw [e]; exact q
      · exact ih (i + 1) h j (by omega) (by omega)
    · rw [if_neg q] at h
      cases h
theorem wd_t {st e w : Nat} (h : wd b st e w = true) : wn w = e - st ∧ ∀ i, i < wn w → b (st + i) = wc w i := by
  unfold wd at h
  by_cases q : wn w = e - st
  · rw [if_pos q] at h
    exact ⟨q, fun i hi => spw_all _ _ h i (by omega) (by omega)⟩
  · rw [if_neg q] at h
    cases h
theorem word_dis : ∀ w v : Fin 14, wn w.val = wn v.val → (∀ i : Fin 12, i.val < wn w.val → wc w.val i.val = wc v.val i.val) → w = v := by decide +kernel
theorem wd_inj {st e w v : Nat} (hw : w < 14) (hv : v < 14) (h1 : wd b st e w = true) (h2 : wd b st e v = true) : w = v := by
  obtain ⟨a1, a2⟩ := wd_t h1
  obtain ⟨c1, c2⟩ := wd_t h2
  have := word_dis ⟨w, hw⟩ ⟨v, hv⟩ (a1.trans c1.symm) (fun i hi => (a2 i.val hi).symm.trans (c2 i.val (by
    have : i.val < wn w := hi
    omega)))
  exact Fin.mk.inj this
theorem wordOf_n {S : St} {w : Nat} (hw : w < 14) : f_P_wordOf (nI w) S = some (w, S) := by
  rcases (show w = 0 ∨ w = 1 ∨ w = 2 ∨ w = 3 ∨ w = 4 ∨ w = 5 ∨ w = 6 ∨ w = 7 ∨ w = 8 ∨ w = 9 ∨ w = 10 ∨ w = 11 ∨ w = 12 ∨ w = 13 by omega) with rfl | rfl | rfl | rfl | rfl | rfl | rfl | rfl | rfl | rfl | rfl | rfl | rfl | rfl <;> rfl
def wrV (b : Nat → Int32) (st e : Nat) : Nat → Nat → Int32
  | 0, _ => -1
  | m + 1, i => if wd b st e i = true then nI i else wrV b st e m (i + 1)
theorem wrV_s {st e m i : Nat} : wrV b st e (m + 1) i = if wd b st e i = true then nI i else wrV b st e m (i + 1) := by rw [wrV]
theorem s_wr {S T : St} {k : Int32} {st e : Nat} (hB : TB b L) (h : TR b L S T k st e) : ∀ (m n i : Nat), i + m = 14 → m + 1 ≤ n → f_P_wordRead_L2 n (nI i) S = some (wrV b st e m i, S) := by
  intro m
  induction m with
  | zero =>
    intro n i hi hn
    obtain ⟨n, rfl⟩ : ∃ n', n = n' + 1 := ⟨n - 1, by omega⟩
    have : (14 : Int32) ≤ nI i := nI_le (a := 14) (by omega) (by omega)
    rw [f_P_wordRead_L2, if_pos this]
    rfl
  | succ m ih =>
    intro n i hi hn
    obtain ⟨n, rfl⟩ : ∃ n', n = n' + 1 := ⟨n - 1, by omega⟩
    have : ¬ (14 : Int32) ≤ nI i := nI_ge (b := 14) (by omega) (by decide)
    rw [f_P_wordRead_L2, if_neg this, wordOf_n (by omega), Option.bind_some, if_pos (decide_eq_true (show i < 14 by omega)), s_spells hB h (by omega), Option.bind_some, wrV_s]
    dsimp only
    by_cases q : wd b st e i = true
    · rw [if_neg (show ¬ bI (wd b st e i) = 0 by rw [q]; decide), if_pos q]
    · have q' : wd b st e i = false := by simpa using q
      rw [if_pos (show bI (wd b st e i) = 0 by rw [q']; rfl), if_neg q, nI_1]
      exact ih n (i + 1) (by omega) (by omega)
theorem wr_hit {st e w : Nat} (hw : w < 14) (h : wd b st e w = true) : ∀ (m i : Nat), i + m = 14 → i ≤ w → wrV b st e m i = nI w := by
  intro m
  induction m with
  | zero => intro i h1 h2; omega
  | succ m ih =>
    intro i h1 h2
    rw [wrV_s]
    by_cases q : wd b st e i = true
    · rw [if_pos q, wd_inj (by omega) hw q h]
    · rw [if_neg q]
      refine ih (i + 1) (by omega) ?_
      have : i ≠ w := fun z => q (by rw [z]; exact h)
      omega
theorem wr_none {st e : Nat} (h : ∀ j, j < 14 → wd b st e j = false) : ∀ (m i : Nat), i + m = 14 → wrV b st e m i = -1 := by
  intro m
  induction m with
  | zero => intro i _; rfl
  | succ m ih =>
    intro i h1
    rw [wrV_s, if_neg (by rw [h i (by omega)]; decide)]
    exact ih (i + 1) (by omega)
theorem s_wordRead {S T : St} {k : Int32} {st e : Nat} (hB : TB b L) (h : TR b L S T k st e) : f_P_wordRead S = some (wrV b st e 14 0, S) := by
  unfold f_P_wordRead
  have := s_wr hB h 14 200 0 (by omega) (by omega)
  rw [nI_0] at this
  exact this
end WORDS
