def k_law : Mth := (x, code, maxLocals, ret)
/-- the script, as every state on the way has it -/
def XScr (X : xC) (b L : Nat) (xs : Nat → Int32) : Prop := b < xB X ∧ ∀ U : State, xE X U → va_X b L xs U U.heap
section SCR
variable {α : Type} {emb : α → Option Value × St} {X : xC} {k : Mth} {d pc pc' tgt : Nat} {ls : List (Option Value)} {st : List Value} {S : St} {f : Option α} {b L : Nat} {xs : Nat → Int32}
theorem g_sld {i : Int32} {j : Nat} (hd : dI k.2.1 pc .iaload 1 pc') (hsc : XScr X b L xs) (hi : inb i L = true) (hj : i.toNatClampNeg = j) (kk : SemG emb X k d pc' ls (.int (xs j) :: st) S f) : SemG emb X k d pc ls (.int i :: .ref b :: st) S f := by
  subst hj
  intro a ha p l e R s m args below meth c C H locs cells slots hW hS hc hs la hl
  obtain ⟨hx, hb, hr, hml, hown, hts, hlk, hnm, hbs, hR, hE, hX⟩ := id C
  obtain ⟨hd, rfl⟩ := hd
  exact va_sld hx hb (hsc.2 s hE.2.2.2.2) (Nat.lt_of_lt_of_le hsc.1 hbs) (Nat.not_le.mpr hsc.1) hS (inb_in hi) hd (kk a ha p l e R s m args below meth c C H locs cells slots hW hS hc hs la hl)
theorem g_slen (hd : dI k.2.1 pc .arraylength 1 pc') (hsc : XScr X b L xs) (kk : SemG emb X k d pc' ls (.int (Int32.ofNat L) :: st) S f) : SemG emb X k d pc ls (.ref b :: st) S f := by
  intro a ha p l e R s m args below meth c C H locs cells slots hW hS hc hs la hl
  obtain ⟨hx, hb, hr, hml, hown, hts, hlk, hnm, hbs, hR, hE, hX⟩ := id C
  obtain ⟨hd, rfl⟩ := hd
  exact va_slen hx hb (hsc.2 s hE.2.2.2.2) (Nat.lt_of_lt_of_le hsc.1 hbs) (Nat.not_le.mpr hsc.1) hS hd (kk a ha p l e R s m args below meth c C H locs cells slots hW hS hc hs la hl)
end SCR
def f_law_L18 (L : Nat) (xs : Nat → Int32) : Nat → Int32 → St → Option (Bool × St)
  | 0, _, _ => none
  | n + 1, y3, S => (if ((Int32.ofNat L) - 6) < y3 then some (true, S) else (if inb y3 L = true then (if ((xs (y3).toNatClampNeg) &&& 63) = 0 then (if inb (y3 + 1) L = true then (if inb (y3 + 2) L = true then ((f_S_sand (xs ((y3 + 1)).toNatClampNeg) (xs ((y3 + 2)).toNatClampNeg) S).bind fun q6 => ((f_M_sand (xs ((y3 + 1)).toNatClampNeg) (xs ((y3 + 2)).toNatClampNeg) q6.2).bind fun q7 => (if q6.1 = q7.1 then f_law_L18 L xs  n (y3 + 6) q7.2 else some (false, q7.2)))) else none) else none) else (if ((xs (y3).toNatClampNeg) &&& 63) = 1 then (if inb (y3 + 1) L = true then (if inb (y3 + 2) L = true then ((f_S_yardOf (xs ((y3 + 1)).toNatClampNeg) (xs ((y3 + 2)).toNatClampNeg) S).bind fun q12 => ((f_M_yardOf (xs ((y3 + 1)).toNatClampNeg) (xs ((y3 + 2)).toNatClampNeg) q12.2).bind fun q13 => (if q12.1 = q13.1 then f_law_L18 L xs  n (y3 + 6) q13.2 else some (false, q13.2)))) else none) else none) else (if ((xs (y3).toNatClampNeg) &&& 63) = 2 then (if inb (y3 + 1) L = true then (if inb (y3 + 2) L = true then ((f_S_set (xs ((y3 + 1)).toNatClampNeg) (xs ((y3 + 2)).toNatClampNeg) S).bind fun q18 => ((f_M_set (xs ((y3 + 1)).toNatClampNeg) (xs ((y3 + 2)).toNatClampNeg) q18.2).bind fun q19 => (if q18.1 = q19.1 then f_law_L18 L xs  n (y3 + 6) q19.2 else some (false, q19.2)))) else none) else none) else (if ((xs (y3).toNatClampNeg) &&& 63) = 3 then (if inb (y3 + 1) L = true then ((f_S_now (xs ((y3 + 1)).toNatClampNeg) S).bind fun q23 => ((f_M_now (xs ((y3 + 1)).toNatClampNeg) q23.2).bind fun q24 => (if q23.1 = q24.1 then f_law_L18 L xs  n (y3 + 6) q24.2 else some (false, q24.2)))) else none) else (if ((xs (y3).toNatClampNeg) &&& 63) = 4 then (if inb (y3 + 1) L = true then (if inb (y3 + 2) L = true then ((f_S_soft (xs ((y3 + 1)).toNatClampNeg) (xs ((y3 + 2)).toNatClampNeg) S).bind fun q29 => ((f_M_soft (xs ((y3 + 1)).toNatClampNeg) (xs ((y3 + 2)).toNatClampNeg) q29.2).bind fun q30 => (if q29.1 = q30.1 then f_law_L18 L xs  n (y3 + 6) q30.2 else some (false, q30.2)))) else none) else none) else (if ((xs (y3).toNatClampNeg) &&& 63) = 5 then (if inb (y3 + 1) L = true then ((f_S_wind (xs ((y3 + 1)).toNatClampNeg) S).bind fun q34 => ((f_M_wind (xs ((y3 + 1)).toNatClampNeg) q34.2).bind fun q35 => (if q34.1 = q35.1 then f_law_L18 L xs  n (y3 + 6) q35.2 else some (false, q35.2)))) else none) else (if ((xs (y3).toNatClampNeg) &&& 63) = 6 then (if inb (y3 + 1) L = true then (if inb (y3 + 2) L = true then ((f_S_effort (xs ((y3 + 1)).toNatClampNeg) (xs ((y3 + 2)).toNatClampNeg) S).bind fun q40 => ((f_M_effort (xs ((y3 + 1)).toNatClampNeg) (xs ((y3 + 2)).toNatClampNeg) q40.2).bind fun q41 => (if q40.1 = q41.1 then f_law_L18 L xs  n (y3 + 6) q41.2 else some (false, q41.2)))) else none) else none) else (if ((xs (y3).toNatClampNeg) &&& 63) = 7 then (if inb (y3 + 1) L = true then (if inb (y3 + 2) L = true then ((f_S_effortOf (xs ((y3 + 1)).toNatClampNeg) (xs ((y3 + 2)).toNatClampNeg) S).bind fun q46 => ((f_M_effortOf (xs ((y3 + 1)).toNatClampNeg) (xs ((y3 + 2)).toNatClampNeg) q46.2).bind fun q47 => (if q46.1 = q47.1 then f_law_L18 L xs  n (y3 + 6) q47.2 else some (false, q47.2)))) else none) else none) else (if ((xs (y3).toNatClampNeg) &&& 63) = 8 then (if inb (y3 + 1) L = true then ((f_S_go (xs ((y3 + 1)).toNatClampNeg) S).bind fun q51 => ((f_M_go (xs ((y3 + 1)).toNatClampNeg) q51.2).bind fun q52 => (if q51.1 = q52.1 then f_law_L18 L xs  n (y3 + 6) q52.2 else some (false, q52.2)))) else none) else (if ((xs (y3).toNatClampNeg) &&& 63) = 9 then (if inb (y3 + 1) L = true then (if inb (y3 + 2) L = true then ((f_S_gives (xs ((y3 + 1)).toNatClampNeg) (xs ((y3 + 2)).toNatClampNeg) S).bind fun q57 => ((f_M_gives (xs ((y3 + 1)).toNatClampNeg) (xs ((y3 + 2)).toNatClampNeg) q57.2).bind fun q58 => (if q57.1 = q58.1 then f_law_L18 L xs  n (y3 + 6) q58.2 else some (false, q58.2)))) else none) else none) else (if ((xs (y3).toNatClampNeg) &&& 63) = 10 then (if inb (y3 + 1) L = true then ((f_S_lasts (xs ((y3 + 1)).toNatClampNeg) S).bind fun q62 => ((f_M_lasts (xs ((y3 + 1)).toNatClampNeg) q62.2).bind fun q63 => (if q62.1 = q63.1 then f_law_L18 L xs  n (y3 + 6) q63.2 else some (false, q63.2)))) else none) else (if ((xs (y3).toNatClampNeg) &&& 63) = 11 then (if inb (y3 + 1) L = true then ((f_S_out (xs ((y3 + 1)).toNatClampNeg) S).bind fun q67 => ((f_M_out (xs ((y3 + 1)).toNatClampNeg) q67.2).bind fun q68 => (if q67.1 = q68.1 then f_law_L18 L xs  n (y3 + 6) q68.2 else some (false, q68.2)))) else none) else (if ((xs (y3).toNatClampNeg) &&& 63) = 12 then (if inb (y3 + 1) L = true then ((f_S_when (xs ((y3 + 1)).toNatClampNeg) S).bind fun q72 => ((f_M_when (xs ((y3 + 1)).toNatClampNeg) q72.2).bind fun q73 => (if q72.1 = q73.1 then f_law_L18 L xs  n (y3 + 6) q73.2 else some (false, q73.2)))) else none) else (if ((xs (y3).toNatClampNeg) &&& 63) = 13 then (if inb (y3 + 1) L = true then (if inb (y3 + 2) L = true then ((f_S_feed (xs ((y3 + 1)).toNatClampNeg) (xs ((y3 + 2)).toNatClampNeg) S).bind fun q78 => ((f_M_feed (xs ((y3 + 1)).toNatClampNeg) (xs ((y3 + 2)).toNatClampNeg) q78.2).bind fun q79 => (if q78.1 = q79.1 then f_law_L18 L xs  n (y3 + 6) q79.2 else some (false, q79.2)))) else none) else none) else (if ((xs (y3).toNatClampNeg) &&& 63) = 14 then ((f_S_wipe S).bind fun q82 => ((f_M_wipe q82.2).bind fun q83 => (if q82.1 = q83.1 then f_law_L18 L xs  n (y3 + 6) q83.2 else some (false, q83.2)))) else (if ((xs (y3).toNatClampNeg) &&& 63) = 15 then ((f_S_text S).bind fun q86 => ((f_M_text q86.2).bind fun q87 => (if q86.1 = q87.1 then f_law_L18 L xs  n (y3 + 6) q87.2 else some (false, q87.2)))) else (if ((xs (y3).toNatClampNeg) &&& 63) = 16 then (if inb (y3 + 1) L = true then ((f_S_planOf (xs ((y3 + 1)).toNatClampNeg) S).bind fun q91 => ((f_M_planOf (xs ((y3 + 1)).toNatClampNeg) q91.2).bind fun q92 => (if q91.1 = q92.1 then f_law_L18 L xs  n (y3 + 6) q92.2 else some (false, q92.2)))) else none) else (if ((xs (y3).toNatClampNeg) &&& 63) = 17 then ((f_S_clear S).bind fun q95 => ((f_M_clear q95.2).bind fun q96 => (if q95.1 = q96.1 then f_law_L18 L xs  n (y3 + 6) q96.2 else some (false, q96.2)))) else (if ((xs (y3).toNatClampNeg) &&& 63) = 18 then ((f_S_follow S).bind fun q99 => ((f_M_follow q99.2).bind fun q100 => (if q99.1 = q100.1 then f_law_L18 L xs  n (y3 + 6) q100.2 else some (false, q100.2)))) else (if ((xs (y3).toNatClampNeg) &&& 63) = 19 then (if inb (y3 + 1) L = true then ((f_S_plans (xs ((y3 + 1)).toNatClampNeg) S).bind fun q104 => ((f_M_plans (xs ((y3 + 1)).toNatClampNeg) q104.2).bind fun q105 => (if q104.1 = q105.1 then f_law_L18 L xs  n (y3 + 6) q105.2 else some (false, q105.2)))) else none) else (if ((xs (y3).toNatClampNeg) &&& 63) = 20 then (if inb (y3 + 1) L = true then (if inb (y3 + 2) L = true then ((f_S_best (xs ((y3 + 1)).toNatClampNeg) (xs ((y3 + 2)).toNatClampNeg) S).bind fun q110 => ((f_M_best (xs ((y3 + 1)).toNatClampNeg) (xs ((y3 + 2)).toNatClampNeg) q110.2).bind fun q111 => (if q110.1 = q111.1 then f_law_L18 L xs  n (y3 + 6) q111.2 else some (false, q111.2)))) else none) else none) else (if ((xs (y3).toNatClampNeg) &&& 63) = 21 then (if inb (y3 + 1) L = true then ((f_S_airFor (xs ((y3 + 1)).toNatClampNeg) S).bind fun q115 => ((f_M_airFor (xs ((y3 + 1)).toNatClampNeg) q115.2).bind fun q116 => (if q115.1 = q116.1 then f_law_L18 L xs  n (y3 + 6) q116.2 else some (false, q116.2)))) else none) else (if ((xs (y3).toNatClampNeg) &&& 63) = 22 then (if inb (y3 + 1) L = true then ((f_S_sacksFor (xs ((y3 + 1)).toNatClampNeg) S).bind fun q120 => ((f_M_sacksFor (xs ((y3 + 1)).toNatClampNeg) q120.2).bind fun q121 => (if q120.1 = q121.1 then f_law_L18 L xs  n (y3 + 6) q121.2 else some (false, q121.2)))) else none) else (if ((xs (y3).toNatClampNeg) &&& 63) = 23 then ((f_S_waterFor S).bind fun q124 => ((f_M_waterFor q124.2).bind fun q125 => (if q124.1 = q125.1 then f_law_L18 L xs  n (y3 + 6) q125.2 else some (false, q125.2)))) else (if ((xs (y3).toNatClampNeg) &&& 63) = 24 then (if inb (y3 + 1) L = true then ((f_S_boardsFor (xs ((y3 + 1)).toNatClampNeg) S).bind fun q129 => ((f_M_boardsFor (xs ((y3 + 1)).toNatClampNeg) q129.2).bind fun q130 => (if q129.1 = q130.1 then f_law_L18 L xs  n (y3 + 6) q130.2 else some (false, q130.2)))) else none) else (if ((xs (y3).toNatClampNeg) &&& 63) = 25 then ((f_S_way S).bind fun q133 => ((f_M_way q133.2).bind fun q134 => (if q133.1 = q134.1 then f_law_L18 L xs  n (y3 + 6) q134.2 else some (false, q134.2)))) else (if ((xs (y3).toNatClampNeg) &&& 63) = 26 then (if inb (y3 + 1) L = true then ((f_S_odds (xs ((y3 + 1)).toNatClampNeg) S).bind fun q138 => ((f_M_odds (xs ((y3 + 1)).toNatClampNeg) q138.2).bind fun q139 => (if q138.1 = q139.1 then f_law_L18 L xs  n (y3 + 6) q139.2 else some (false, q139.2)))) else none) else (if ((xs (y3).toNatClampNeg) &&& 63) = 27 then (if inb (y3 + 1) L = true then ((f_S_seed (xs ((y3 + 1)).toNatClampNeg) S).bind fun q143 => ((f_M_seed (xs ((y3 + 1)).toNatClampNeg) q143.2).bind fun q144 => (if q143.1 = q144.1 then f_law_L18 L xs  n (y3 + 6) q144.2 else some (false, q144.2)))) else none) else (if ((xs (y3).toNatClampNeg) &&& 63) = 28 then (if inb (y3 + 1) L = true then (if inb (y3 + 2) L = true then ((f_S_hold (xs ((y3 + 1)).toNatClampNeg) (xs ((y3 + 2)).toNatClampNeg) S).bind fun q149 => ((f_M_hold (xs ((y3 + 1)).toNatClampNeg) (xs ((y3 + 2)).toNatClampNeg) q149.2).bind fun q150 => (if q149.1 = q150.1 then f_law_L18 L xs  n (y3 + 6) q150.2 else some (false, q150.2)))) else none) else none) else (if ((xs (y3).toNatClampNeg) &&& 63) = 29 then (if inb (y3 + 1) L = true then (if inb (y3 + 2) L = true then ((f_S_as (xs ((y3 + 1)).toNatClampNeg) (xs ((y3 + 2)).toNatClampNeg) S).bind fun q155 => ((f_M_as (xs ((y3 + 1)).toNatClampNeg) (xs ((y3 + 2)).toNatClampNeg) q155.2).bind fun q156 => (if q155.1 = q156.1 then f_law_L18 L xs  n (y3 + 6) q156.2 else some (false, q156.2)))) else none) else none) else (if ((xs (y3).toNatClampNeg) &&& 63) = 30 then (if inb (y3 + 1) L = true then (if inb (y3 + 2) L = true then (if inb (y3 + 3) L = true then ((f_S_sheet (xs ((y3 + 1)).toNatClampNeg) (xs ((y3 + 2)).toNatClampNeg) (xs ((y3 + 3)).toNatClampNeg) S).bind fun q162 => ((f_M_sheet (xs ((y3 + 1)).toNatClampNeg) (xs ((y3 + 2)).toNatClampNeg) (xs ((y3 + 3)).toNatClampNeg) q162.2).bind fun q163 => (if q162.1 = q163.1 then f_law_L18 L xs  n (y3 + 6) q163.2 else some (false, q163.2)))) else none) else none) else none) else (if ((xs (y3).toNatClampNeg) &&& 63) = 31 then (if inb (y3 + 1) L = true then (if inb (y3 + 2) L = true then (if inb (y3 + 3) L = true then ((f_S_write (xs ((y3 + 1)).toNatClampNeg) (xs ((y3 + 2)).toNatClampNeg) (xs ((y3 + 3)).toNatClampNeg) S).bind fun q169 => ((f_M_write (xs ((y3 + 1)).toNatClampNeg) (xs ((y3 + 2)).toNatClampNeg) (xs ((y3 + 3)).toNatClampNeg) q169.2).bind fun q170 => (if q169.1 = q170.1 then f_law_L18 L xs  n (y3 + 6) q170.2 else some (false, q170.2)))) else none) else none) else none) else (if ((xs (y3).toNatClampNeg) &&& 63) = 32 then (if inb (y3 + 1) L = true then (if inb (y3 + 2) L = true then (if inb (y3 + 3) L = true then (if inb (y3 + 4) L = true then (if inb (y3 + 5) L = true then ((f_S_copy (xs ((y3 + 1)).toNatClampNeg) (xs ((y3 + 2)).toNatClampNeg) (xs ((y3 + 3)).toNatClampNeg) (xs ((y3 + 4)).toNatClampNeg) (xs ((y3 + 5)).toNatClampNeg) S).bind fun q178 => ((f_M_copy (xs ((y3 + 1)).toNatClampNeg) (xs ((y3 + 2)).toNatClampNeg) (xs ((y3 + 3)).toNatClampNeg) (xs ((y3 + 4)).toNatClampNeg) (xs ((y3 + 5)).toNatClampNeg) q178.2).bind fun q179 => (if q178.1 = q179.1 then f_law_L18 L xs  n (y3 + 6) q179.2 else some (false, q179.2)))) else none) else none) else none) else none) else none) else (if ((xs (y3).toNatClampNeg) &&& 63) = 33 then (if inb (y3 + 1) L = true then (if inb (y3 + 2) L = true then ((f_S_load (xs ((y3 + 1)).toNatClampNeg) (xs ((y3 + 2)).toNatClampNeg) S).bind fun q184 => ((f_M_load (xs ((y3 + 1)).toNatClampNeg) (xs ((y3 + 2)).toNatClampNeg) q184.2).bind fun q185 => (if q184.1 = q185.1 then f_law_L18 L xs  n (y3 + 6) q185.2 else some (false, q185.2)))) else none) else none) else (if ((xs (y3).toNatClampNeg) &&& 63) = 34 then (if inb (y3 + 1) L = true then ((f_S_judge (xs ((y3 + 1)).toNatClampNeg) S).bind fun q189 => ((f_M_judge (xs ((y3 + 1)).toNatClampNeg) q189.2).bind fun q190 => (if q189.1 = q190.1 then f_law_L18 L xs  n (y3 + 6) q190.2 else some (false, q190.2)))) else none) else (if ((xs (y3).toNatClampNeg) &&& 63) = 35 then ((f_S_image S).bind fun q193 => ((f_M_image q193.2).bind fun q194 => (if q193.1 = q194.1 then f_law_L18 L xs  n (y3 + 6) q194.2 else some (false, q194.2)))) else (if ((xs (y3).toNatClampNeg) &&& 63) = 36 then ((f_S_undo S).bind fun q197 => ((f_M_undo q197.2).bind fun q198 => (if q197.1 = q198.1 then f_law_L18 L xs  n (y3 + 6) q198.2 else some (false, q198.2)))) else (if ((xs (y3).toNatClampNeg) &&& 63) = 37 then ((f_S_tear S).bind fun q201 => ((f_M_tear q201.2).bind fun q202 => (if q201.1 = q202.1 then f_law_L18 L xs  n (y3 + 6) q202.2 else some (false, q202.2)))) else (if ((xs (y3).toNatClampNeg) &&& 63) = 38 then (if inb (y3 + 1) L = true then ((f_S_count (xs ((y3 + 1)).toNatClampNeg) S).bind fun q206 => ((f_M_count (xs ((y3 + 1)).toNatClampNeg) q206.2).bind fun q207 => (if q206.1 = q207.1 then f_law_L18 L xs  n (y3 + 6) q207.2 else some (false, q207.2)))) else none) else (if ((xs (y3).toNatClampNeg) &&& 63) = 39 then (if inb (y3 + 1) L = true then ((f_S_status (xs ((y3 + 1)).toNatClampNeg) S).bind fun q211 => ((f_M_status (xs ((y3 + 1)).toNatClampNeg) q211.2).bind fun q212 => (if q211.1 = q212.1 then f_law_L18 L xs  n (y3 + 6) q212.2 else some (false, q212.2)))) else none) else f_law_L18 L xs  n (y3 + 6) S)))))))))))))))))))))))))))))))))))))))) else none))
set_option maxRecDepth 20000 in
set_option maxHeartbeats 4000000 in
theorem w_law_L18 {X : xC} {d b L : Nat} {xs : Nat → Int32} {sA : Nat → Nat} (hs : XTxt X sA) (hsc : XScr X b L xs) : ∀ (n : Nat) (y3 : Int32) (S : St), SemG eB X k_law (d + 9) 18 [some (.ref b), some (.ref (xB X + 0)), some (.ref (xB X + 46)), some (.int y3)] [] S (f_law_L18 L xs n y3 S) := by
  intro n
  induction n with
  | zero => intro _ _; exact g_none
  | succ n ih =>
    intro y3 S
    unfold f_law_L18
    refine g_iload_n d_law_18 rfl ?_
    refine g_aload_n d_law_19 rfl ?_
    refine g_slen d_law_20 hsc ?_
    refine g_bipush d_law_21 ?_
    refine g_isub d_law_23 ?_
    refine s_icmp_gt d_law_24 (fun u1 => ?_) (fun u1 => ?_)
    · refine g_iconst d_law_1244 ?_
      refine g_zreturn d_law_1245 rfl ?_ rfl
      rfl
    · refine g_aload_n d_law_27 rfl ?_
      refine g_iload_n d_law_28 rfl ?_
      refine g_guard (fun hb2 => ?_)
      refine g_sld d_law_29 hsc hb2 rfl ?_
      refine g_bipush d_law_30 ?_
      refine g_iand d_law_32 ?_
      refine g_ite (fun u3 => ?_) (fun u3 => ?_)
      · refine g_tcase (off := 175) (tgt := 208) d_law_33 u3 (by decide) ?_
        refine g_aload_n d_law_208 rfl ?_
        refine g_aload_n d_law_209 rfl ?_
        refine g_iload_n d_law_210 rfl ?_
        refine g_iconst d_law_211 ?_
        refine g_iadd d_law_212 ?_
        refine g_guard (fun hb4 => ?_)
        refine g_sld d_law_213 hsc hb4 rfl ?_
        refine g_aload_n d_law_214 rfl ?_
        refine g_iload_n d_law_215 rfl ?_
        refine g_iconst d_law_216 ?_
        refine g_iadd d_law_217 ?_
        refine g_guard (fun hb5 => ?_)
        refine g_sld d_law_218 hsc hb5 rfl ?_
        refine g_callV2I d_law_219 ml_law_13 vk_S_sand rfl ⟨_, rfl, rfl⟩ rfl rfl (Nat.le_of_ble_eq_true rfl) (w_S_sand (X := X) (d := d + 7) _ _ _) (fun q6 => ?_)
        refine g_aload_n d_law_222 rfl ?_
        refine g_aload_n d_law_223 rfl ?_
        refine g_iload_n d_law_224 rfl ?_
        refine g_iconst d_law_225 ?_
        refine g_iadd d_law_226 ?_
        refine g_sld d_law_227 hsc hb4 rfl ?_
        refine g_aload_n d_law_228 rfl ?_
        refine g_iload_n d_law_229 rfl ?_
        refine g_iconst d_law_230 ?_
        refine g_iadd d_law_231 ?_
        refine g_sld d_law_232 hsc hb5 rfl ?_
        refine g_callV2I d_law_233 ml_law_17 vk_M_sand rfl ⟨_, rfl, rfl⟩ rfl rfl (Nat.le_of_ble_eq_true rfl) (w_M_sand (X := X) (d := d + 6) _ _ _) (fun q7 => ?_)
        refine s_icmp_eq d_law_236 (fun u8 => ?_) (fun u8 => ?_)
        · refine g_iinc d_law_1238 (by decide) rfl ?_
          refine g_goto d_law_1241 ?_
          exact ih _ _
        · refine g_iconst d_law_239 ?_
          refine g_zreturn d_law_240 rfl ?_ rfl
          rfl
      refine g_ite (fun u9 => ?_) (fun u9 => ?_)
      · refine g_tcase (off := 208) (tgt := 241) d_law_33 u9 (by decide) ?_
        refine g_aload_n d_law_241 rfl ?_
        refine g_aload_n d_law_242 rfl ?_
        refine g_iload_n d_law_243 rfl ?_
        refine g_iconst d_law_244 ?_
        refine g_iadd d_law_245 ?_
        refine g_guard (fun hb10 => ?_)
        refine g_sld d_law_246 hsc hb10 rfl ?_
        refine g_aload_n d_law_247 rfl ?_
        refine g_iload_n d_law_248 rfl ?_
        refine g_iconst d_law_249 ?_
        refine g_iadd d_law_250 ?_
        refine g_guard (fun hb11 => ?_)
        refine g_sld d_law_251 hsc hb11 rfl ?_
        refine g_callV2I d_law_252 ml_law_18 vk_S_yardOf rfl ⟨_, rfl, rfl⟩ rfl rfl (Nat.le_of_ble_eq_true rfl) (w_S_yardOf (X := X) (d := d + 6) _ _ _) (fun q12 => ?_)
        refine g_aload_n d_law_255 rfl ?_
        refine g_aload_n d_law_256 rfl ?_
        refine g_iload_n d_law_257 rfl ?_
        refine g_iconst d_law_258 ?_
        refine g_iadd d_law_259 ?_
        refine g_sld d_law_260 hsc hb10 rfl ?_
        refine g_aload_n d_law_261 rfl ?_
        refine g_iload_n d_law_262 rfl ?_
        refine g_iconst d_law_263 ?_
        refine g_iadd d_law_264 ?_
        refine g_sld d_law_265 hsc hb11 rfl ?_
        refine g_callV2I d_law_266 ml_law_21 vk_M_yardOf rfl ⟨_, rfl, rfl⟩ rfl rfl (Nat.le_of_ble_eq_true rfl) (w_M_yardOf (X := X) (d := d + 5) _ _ _) (fun q13 => ?_)
        refine s_icmp_eq d_law_269 (fun u14 => ?_) (fun u14 => ?_)
        · refine g_iinc d_law_1238 (by decide) rfl ?_
          refine g_goto d_law_1241 ?_
          exact ih _ _
        · refine g_iconst d_law_272 ?_
          refine g_zreturn d_law_273 rfl ?_ rfl
          rfl
      refine g_ite (fun u15 => ?_) (fun u15 => ?_)
      · refine g_tcase (off := 241) (tgt := 274) d_law_33 u15 (by decide) ?_
        refine g_aload_n d_law_274 rfl ?_
        refine g_aload_n d_law_275 rfl ?_
        refine g_iload_n d_law_276 rfl ?_
        refine g_iconst d_law_277 ?_
        refine g_iadd d_law_278 ?_
        refine g_guard (fun hb16 => ?_)
        refine g_sld d_law_279 hsc hb16 rfl ?_
        refine g_aload_n d_law_280 rfl ?_
        refine g_iload_n d_law_281 rfl ?_
        refine g_iconst d_law_282 ?_
        refine g_iadd d_law_283 ?_
        refine g_guard (fun hb17 => ?_)
        refine g_sld d_law_284 hsc hb17 rfl ?_
        refine g_callV2I d_law_285 ml_law_22 vk_S_set rfl ⟨_, rfl, rfl⟩ rfl rfl (Nat.le_of_ble_eq_true rfl) (w_S_set (X := X) (d := d + 7) _ _ _) (fun q18 => ?_)
        refine g_aload_n d_law_288 rfl ?_
        refine g_aload_n d_law_289 rfl ?_
        refine g_iload_n d_law_290 rfl ?_
        refine g_iconst d_law_291 ?_
        refine g_iadd d_law_292 ?_
        refine g_sld d_law_293 hsc hb16 rfl ?_
        refine g_aload_n d_law_294 rfl ?_
        refine g_iload_n d_law_295 rfl ?_
        refine g_iconst d_law_296 ?_
        refine g_iadd d_law_297 ?_
        refine g_sld d_law_298 hsc hb17 rfl ?_
        refine g_callV2I d_law_299 ml_law_25 vk_M_set rfl ⟨_, rfl, rfl⟩ rfl rfl (Nat.le_of_ble_eq_true rfl) (w_M_set (X := X) (d := d + 6) _ _ _) (fun q19 => ?_)
        refine s_icmp_eq d_law_302 (fun u20 => ?_) (fun u20 => ?_)
        · refine g_iinc d_law_1238 (by decide) rfl ?_
          refine g_goto d_law_1241 ?_
          exact ih _ _
        · refine g_iconst d_law_305 ?_
          refine g_zreturn d_law_306 rfl ?_ rfl
          rfl
      refine g_ite (fun u21 => ?_) (fun u21 => ?_)
      · refine g_tcase (off := 274) (tgt := 307) d_law_33 u21 (by decide) ?_
        refine g_aload_n d_law_307 rfl ?_
        refine g_aload_n d_law_308 rfl ?_
        refine g_iload_n d_law_309 rfl ?_
        refine g_iconst d_law_310 ?_
        refine g_iadd d_law_311 ?_
        refine g_guard (fun hb22 => ?_)
        refine g_sld d_law_312 hsc hb22 rfl ?_
        refine g_callV1I d_law_313 ml_law_26 vk_S_now rfl ⟨_, rfl, rfl⟩ rfl (Nat.le_of_ble_eq_true rfl) (w_S_now (X := X) (d := d + 6) _ _) (fun q23 => ?_)
        refine g_aload_n d_law_316 rfl ?_
        refine g_aload_n d_law_317 rfl ?_
        refine g_iload_n d_law_318 rfl ?_
        refine g_iconst d_law_319 ?_
        refine g_iadd d_law_320 ?_
        refine g_sld d_law_321 hsc hb22 rfl ?_
        refine g_callV1I d_law_322 ml_law_30 vk_M_now rfl ⟨_, rfl, rfl⟩ rfl (Nat.le_of_ble_eq_true rfl) (w_M_now (X := X) (d := d + 5) _ _) (fun q24 => ?_)
        refine s_icmp_eq d_law_325 (fun u25 => ?_) (fun u25 => ?_)
        · refine g_iinc d_law_1238 (by decide) rfl ?_
          refine g_goto d_law_1241 ?_
          exact ih _ _
        · refine g_iconst d_law_328 ?_
          refine g_zreturn d_law_329 rfl ?_ rfl
          rfl
      refine g_ite (fun u26 => ?_) (fun u26 => ?_)
      · refine g_tcase (off := 297) (tgt := 330) d_law_33 u26 (by decide) ?_
        refine g_aload_n d_law_330 rfl ?_
        refine g_aload_n d_law_331 rfl ?_
        refine g_iload_n d_law_332 rfl ?_
        refine g_iconst d_law_333 ?_
        refine g_iadd d_law_334 ?_
        refine g_guard (fun hb27 => ?_)
        refine g_sld d_law_335 hsc hb27 rfl ?_
        refine g_aload_n d_law_336 rfl ?_
        refine g_iload_n d_law_337 rfl ?_
        refine g_iconst d_law_338 ?_
        refine g_iadd d_law_339 ?_
        refine g_guard (fun hb28 => ?_)
        refine g_sld d_law_340 hsc hb28 rfl ?_
        refine g_callV2I d_law_341 ml_law_31 vk_S_soft rfl ⟨_, rfl, rfl⟩ rfl rfl (Nat.le_of_ble_eq_true rfl) (w_S_soft (X := X) (d := d + 7) _ _ _) (fun q29 => ?_)
        refine g_aload_n d_law_344 rfl ?_
        refine g_aload_n d_law_345 rfl ?_
        refine g_iload_n d_law_346 rfl ?_
        refine g_iconst d_law_347 ?_
        refine g_iadd d_law_348 ?_
        refine g_sld d_law_349 hsc hb27 rfl ?_
        refine g_aload_n d_law_350 rfl ?_
        refine g_iload_n d_law_351 rfl ?_
        refine g_iconst d_law_352 ?_
        refine g_iadd d_law_353 ?_
        refine g_sld d_law_354 hsc hb28 rfl ?_
        refine g_callV2I d_law_355 ml_law_34 vk_M_soft rfl ⟨_, rfl, rfl⟩ rfl rfl (Nat.le_of_ble_eq_true rfl) (w_M_soft (X := X) (d := d + 7) _ _ _) (fun q30 => ?_)
        refine s_icmp_eq d_law_358 (fun u31 => ?_) (fun u31 => ?_)
        · refine g_iinc d_law_1238 (by decide) rfl ?_
          refine g_goto d_law_1241 ?_
          exact ih _ _
        · refine g_iconst d_law_361 ?_
          refine g_zreturn d_law_362 rfl ?_ rfl
          rfl
      refine g_ite (fun u32 => ?_) (fun u32 => ?_)
      · refine g_tcase (off := 330) (tgt := 363) d_law_33 u32 (by decide) ?_
        refine g_aload_n d_law_363 rfl ?_
        refine g_aload_n d_law_364 rfl ?_
        refine g_iload_n d_law_365 rfl ?_
        refine g_iconst d_law_366 ?_
        refine g_iadd d_law_367 ?_
        refine g_guard (fun hb33 => ?_)
        refine g_sld d_law_368 hsc hb33 rfl ?_
        refine g_callV1I d_law_369 ml_law_35 vk_S_wind rfl ⟨_, rfl, rfl⟩ rfl (Nat.le_of_ble_eq_true rfl) (w_S_wind (X := X) (d := d + 7) _ _) (fun q34 => ?_)
        refine g_aload_n d_law_372 rfl ?_
        refine g_aload_n d_law_373 rfl ?_
        refine g_iload_n d_law_374 rfl ?_
        refine g_iconst d_law_375 ?_
        refine g_iadd d_law_376 ?_
        refine g_sld d_law_377 hsc hb33 rfl ?_
        refine g_callV1I d_law_378 ml_law_38 vk_M_wind rfl ⟨_, rfl, rfl⟩ rfl (Nat.le_of_ble_eq_true rfl) (w_M_wind (X := X) (d := d + 7) _ _) (fun q35 => ?_)
        refine s_icmp_eq d_law_381 (fun u36 => ?_) (fun u36 => ?_)
        · refine g_iinc d_law_1238 (by decide) rfl ?_
          refine g_goto d_law_1241 ?_
          exact ih _ _
        · refine g_iconst d_law_384 ?_
          refine g_zreturn d_law_385 rfl ?_ rfl
          rfl
      refine g_ite (fun u37 => ?_) (fun u37 => ?_)
      · refine g_tcase (off := 353) (tgt := 386) d_law_33 u37 (by decide) ?_
        refine g_aload_n d_law_386 rfl ?_
        refine g_aload_n d_law_387 rfl ?_
        refine g_iload_n d_law_388 rfl ?_
        refine g_iconst d_law_389 ?_
        refine g_iadd d_law_390 ?_
        refine g_guard (fun hb38 => ?_)
        refine g_sld d_law_391 hsc hb38 rfl ?_
        refine g_aload_n d_law_392 rfl ?_
        refine g_iload_n d_law_393 rfl ?_
        refine g_iconst d_law_394 ?_
        refine g_iadd d_law_395 ?_
        refine g_guard (fun hb39 => ?_)
        refine g_sld d_law_396 hsc hb39 rfl ?_
        refine g_callV2I d_law_397 ml_law_39 vk_S_effort rfl ⟨_, rfl, rfl⟩ rfl rfl (Nat.le_of_ble_eq_true rfl) (w_S_effort (X := X) (d := d + 7) _ _ _) (fun q40 => ?_)
        refine g_aload_n d_law_400 rfl ?_
        refine g_aload_n d_law_401 rfl ?_
        refine g_iload_n d_law_402 rfl ?_
        refine g_iconst d_law_403 ?_
        refine g_iadd d_law_404 ?_
        refine g_sld d_law_405 hsc hb38 rfl ?_
        refine g_aload_n d_law_406 rfl ?_
        refine g_iload_n d_law_407 rfl ?_
        refine g_iconst d_law_408 ?_
        refine g_iadd d_law_409 ?_
        refine g_sld d_law_410 hsc hb39 rfl ?_
        refine g_callV2I d_law_411 ml_law_42 vk_M_effort rfl ⟨_, rfl, rfl⟩ rfl rfl (Nat.le_of_ble_eq_true rfl) (w_M_effort (X := X) (d := d + 6) _ _ _) (fun q41 => ?_)
        refine s_icmp_eq d_law_414 (fun u42 => ?_) (fun u42 => ?_)
        · refine g_iinc d_law_1238 (by decide) rfl ?_
          refine g_goto d_law_1241 ?_
          exact ih _ _
        · refine g_iconst d_law_417 ?_
          refine g_zreturn d_law_418 rfl ?_ rfl
          rfl
      refine g_ite (fun u43 => ?_) (fun u43 => ?_)
      · refine g_tcase (off := 386) (tgt := 419) d_law_33 u43 (by decide) ?_
        refine g_aload_n d_law_419 rfl ?_
        refine g_aload_n d_law_420 rfl ?_
        refine g_iload_n d_law_421 rfl ?_
        refine g_iconst d_law_422 ?_
        refine g_iadd d_law_423 ?_
        refine g_guard (fun hb44 => ?_)
        refine g_sld d_law_424 hsc hb44 rfl ?_
        refine g_aload_n d_law_425 rfl ?_
        refine g_iload_n d_law_426 rfl ?_
        refine g_iconst d_law_427 ?_
        refine g_iadd d_law_428 ?_
        refine g_guard (fun hb45 => ?_)
        refine g_sld d_law_429 hsc hb45 rfl ?_
        refine g_callV2I d_law_430 ml_law_43 vk_S_effortOf rfl ⟨_, rfl, rfl⟩ rfl rfl (Nat.le_of_ble_eq_true rfl) (w_S_effortOf (X := X) (d := d + 5) _ _ _) (fun q46 => ?_)
        refine g_aload_n d_law_433 rfl ?_
        refine g_aload_n d_law_434 rfl ?_
        refine g_iload_n d_law_435 rfl ?_
        refine g_iconst d_law_436 ?_
        refine g_iadd d_law_437 ?_
        refine g_sld d_law_438 hsc hb44 rfl ?_
        refine g_aload_n d_law_439 rfl ?_
        refine g_iload_n d_law_440 rfl ?_
        refine g_iconst d_law_441 ?_
        refine g_iadd d_law_442 ?_
        refine g_sld d_law_443 hsc hb45 rfl ?_
        refine g_callV2I d_law_444 ml_law_46 vk_M_effortOf rfl ⟨_, rfl, rfl⟩ rfl rfl (Nat.le_of_ble_eq_true rfl) (w_M_effortOf (X := X) (d := d + 5) _ _ _) (fun q47 => ?_)
        refine s_icmp_eq d_law_447 (fun u48 => ?_) (fun u48 => ?_)
        · refine g_iinc d_law_1238 (by decide) rfl ?_
          refine g_goto d_law_1241 ?_
          exact ih _ _
        · refine g_iconst d_law_450 ?_
          refine g_zreturn d_law_451 rfl ?_ rfl
          rfl
      refine g_ite (fun u49 => ?_) (fun u49 => ?_)
      · refine g_tcase (off := 419) (tgt := 452) d_law_33 u49 (by decide) ?_
        refine g_aload_n d_law_452 rfl ?_
        refine g_aload_n d_law_453 rfl ?_
        refine g_iload_n d_law_454 rfl ?_
        refine g_iconst d_law_455 ?_
        refine g_iadd d_law_456 ?_
        refine g_guard (fun hb50 => ?_)
        refine g_sld d_law_457 hsc hb50 rfl ?_
        refine g_callV1I d_law_458 ml_law_47 vk_S_go rfl ⟨_, rfl, rfl⟩ rfl (Nat.le_of_ble_eq_true rfl) (w_S_go (X := X) (d := d + 3) _ _) (fun q51 => ?_)
        refine g_aload_n d_law_461 rfl ?_
        refine g_aload_n d_law_462 rfl ?_
        refine g_iload_n d_law_463 rfl ?_
        refine g_iconst d_law_464 ?_
        refine g_iadd d_law_465 ?_
        refine g_sld d_law_466 hsc hb50 rfl ?_
        refine g_callV1I d_law_467 ml_law_50 vk_M_go rfl ⟨_, rfl, rfl⟩ rfl (Nat.le_of_ble_eq_true rfl) (w_M_go (X := X) (d := d + 3) _ _) (fun q52 => ?_)
        refine s_icmp_eq d_law_470 (fun u53 => ?_) (fun u53 => ?_)
        · refine g_iinc d_law_1238 (by decide) rfl ?_
          refine g_goto d_law_1241 ?_
          exact ih _ _
        · refine g_iconst d_law_473 ?_
          refine g_zreturn d_law_474 rfl ?_ rfl
          rfl
      refine g_ite (fun u54 => ?_) (fun u54 => ?_)
      · refine g_tcase (off := 442) (tgt := 475) d_law_33 u54 (by decide) ?_
        refine g_aload_n d_law_475 rfl ?_
        refine g_aload_n d_law_476 rfl ?_
        refine g_iload_n d_law_477 rfl ?_
        refine g_iconst d_law_478 ?_
        refine g_iadd d_law_479 ?_
        refine g_guard (fun hb55 => ?_)
        refine g_sld d_law_480 hsc hb55 rfl ?_
        refine g_aload_n d_law_481 rfl ?_
        refine g_iload_n d_law_482 rfl ?_
        refine g_iconst d_law_483 ?_
        refine g_iadd d_law_484 ?_
        refine g_guard (fun hb56 => ?_)
        refine g_sld d_law_485 hsc hb56 rfl ?_
        refine g_callV2I d_law_486 ml_law_51 vk_S_gives rfl ⟨_, rfl, rfl⟩ rfl rfl (Nat.le_of_ble_eq_true rfl) (w_S_gives (X := X) (d := d + 3) _ _ _) (fun q57 => ?_)
        refine g_aload_n d_law_489 rfl ?_
        refine g_aload_n d_law_490 rfl ?_
        refine g_iload_n d_law_491 rfl ?_
        refine g_iconst d_law_492 ?_
        refine g_iadd d_law_493 ?_
        refine g_sld d_law_494 hsc hb55 rfl ?_
        refine g_aload_n d_law_495 rfl ?_
        refine g_iload_n d_law_496 rfl ?_
        refine g_iconst d_law_497 ?_
        refine g_iadd d_law_498 ?_
        refine g_sld d_law_499 hsc hb56 rfl ?_
        refine g_callV2I d_law_500 ml_law_54 vk_M_gives rfl ⟨_, rfl, rfl⟩ rfl rfl (Nat.le_of_ble_eq_true rfl) (w_M_gives (X := X) (d := d + 3) _ _ _) (fun q58 => ?_)
        refine s_icmp_eq d_law_503 (fun u59 => ?_) (fun u59 => ?_)
        · refine g_iinc d_law_1238 (by decide) rfl ?_
          refine g_goto d_law_1241 ?_
          exact ih _ _
        · refine g_iconst d_law_506 ?_
          refine g_zreturn d_law_507 rfl ?_ rfl
          rfl
      refine g_ite (fun u60 => ?_) (fun u60 => ?_)
      · refine g_tcase (off := 475) (tgt := 508) d_law_33 u60 (by decide) ?_
        refine g_aload_n d_law_508 rfl ?_
        refine g_aload_n d_law_509 rfl ?_
        refine g_iload_n d_law_510 rfl ?_
        refine g_iconst d_law_511 ?_
        refine g_iadd d_law_512 ?_
        refine g_guard (fun hb61 => ?_)
        refine g_sld d_law_513 hsc hb61 rfl ?_
        refine g_callV1I d_law_514 ml_law_55 vk_S_lasts rfl ⟨_, rfl, rfl⟩ rfl (Nat.le_of_ble_eq_true rfl) (w_S_lasts (X := X) (d := d + 3) _ _) (fun q62 => ?_)
        refine g_aload_n d_law_517 rfl ?_
        refine g_aload_n d_law_518 rfl ?_
        refine g_iload_n d_law_519 rfl ?_
        refine g_iconst d_law_520 ?_
        refine g_iadd d_law_521 ?_
        refine g_sld d_law_522 hsc hb61 rfl ?_
        refine g_callV1I d_law_523 ml_law_58 vk_M_lasts rfl ⟨_, rfl, rfl⟩ rfl (Nat.le_of_ble_eq_true rfl) (w_M_lasts (X := X) (d := d + 2) _ _) (fun q63 => ?_)
        refine s_icmp_eq d_law_526 (fun u64 => ?_) (fun u64 => ?_)
        · refine g_iinc d_law_1238 (by decide) rfl ?_
          refine g_goto d_law_1241 ?_
          exact ih _ _
        · refine g_iconst d_law_529 ?_
          refine g_zreturn d_law_530 rfl ?_ rfl
          rfl
      refine g_ite (fun u65 => ?_) (fun u65 => ?_)
      · refine g_tcase (off := 498) (tgt := 531) d_law_33 u65 (by decide) ?_
        refine g_aload_n d_law_531 rfl ?_
        refine g_aload_n d_law_532 rfl ?_
        refine g_iload_n d_law_533 rfl ?_
        refine g_iconst d_law_534 ?_
        refine g_iadd d_law_535 ?_
        refine g_guard (fun hb66 => ?_)
        refine g_sld d_law_536 hsc hb66 rfl ?_
        refine g_callV1I d_law_537 ml_law_59 vk_S_out rfl ⟨_, rfl, rfl⟩ rfl (Nat.le_of_ble_eq_true rfl) (w_S_out (X := X) (d := d + 2) _ _) (fun q67 => ?_)
        refine g_aload_n d_law_540 rfl ?_
        refine g_aload_n d_law_541 rfl ?_
        refine g_iload_n d_law_542 rfl ?_
        refine g_iconst d_law_543 ?_
        refine g_iadd d_law_544 ?_
        refine g_sld d_law_545 hsc hb66 rfl ?_
        refine g_callV1I d_law_546 ml_law_62 vk_M_out rfl ⟨_, rfl, rfl⟩ rfl (Nat.le_of_ble_eq_true rfl) (w_M_out (X := X) (d := d + 1) _ _) (fun q68 => ?_)
        refine s_icmp_eq d_law_549 (fun u69 => ?_) (fun u69 => ?_)
        · refine g_iinc d_law_1238 (by decide) rfl ?_
          refine g_goto d_law_1241 ?_
          exact ih _ _
        · refine g_iconst d_law_552 ?_
          refine g_zreturn d_law_553 rfl ?_ rfl
          rfl
      refine g_ite (fun u70 => ?_) (fun u70 => ?_)
      · refine g_tcase (off := 521) (tgt := 554) d_law_33 u70 (by decide) ?_
        refine g_aload_n d_law_554 rfl ?_
        refine g_aload_n d_law_555 rfl ?_
        refine g_iload_n d_law_556 rfl ?_
        refine g_iconst d_law_557 ?_
        refine g_iadd d_law_558 ?_
        refine g_guard (fun hb71 => ?_)
        refine g_sld d_law_559 hsc hb71 rfl ?_
        refine g_callV1I d_law_560 ml_law_63 vk_S_when rfl ⟨_, rfl, rfl⟩ rfl (Nat.le_of_ble_eq_true rfl) (w_S_when (X := X) (d := d + 3) _ _) (fun q72 => ?_)
        refine g_aload_n d_law_563 rfl ?_
        refine g_aload_n d_law_564 rfl ?_
        refine g_iload_n d_law_565 rfl ?_
        refine g_iconst d_law_566 ?_
        refine g_iadd d_law_567 ?_
        refine g_sld d_law_568 hsc hb71 rfl ?_
        refine g_callV1I d_law_569 ml_law_66 vk_M_when rfl ⟨_, rfl, rfl⟩ rfl (Nat.le_of_ble_eq_true rfl) (w_M_when (X := X) (d := d + 3) _ _) (fun q73 => ?_)
        refine s_icmp_eq d_law_572 (fun u74 => ?_) (fun u74 => ?_)
        · refine g_iinc d_law_1238 (by decide) rfl ?_
          refine g_goto d_law_1241 ?_
          exact ih _ _
        · refine g_iconst d_law_575 ?_
          refine g_zreturn d_law_576 rfl ?_ rfl
          rfl
      refine g_ite (fun u75 => ?_) (fun u75 => ?_)
      · refine g_tcase (off := 544) (tgt := 577) d_law_33 u75 (by decide) ?_
        refine g_aload_n d_law_577 rfl ?_
        refine g_aload_n d_law_578 rfl ?_
        refine g_iload_n d_law_579 rfl ?_
        refine g_iconst d_law_580 ?_
        refine g_iadd d_law_581 ?_
        refine g_guard (fun hb76 => ?_)
        refine g_sld d_law_582 hsc hb76 rfl ?_
        refine g_aload_n d_law_583 rfl ?_
        refine g_iload_n d_law_584 rfl ?_
        refine g_iconst d_law_585 ?_
        refine g_iadd d_law_586 ?_
        refine g_guard (fun hb77 => ?_)
        refine g_sld d_law_587 hsc hb77 rfl ?_
        refine g_callV2I d_law_588 ml_law_67 vk_S_feed rfl ⟨_, rfl, rfl⟩ rfl rfl (Nat.le_of_ble_eq_true rfl) (w_S_feed (X := X) (d := d + 7) _ _ _) (fun q78 => ?_)
        refine g_aload_n d_law_591 rfl ?_
        refine g_aload_n d_law_592 rfl ?_
        refine g_iload_n d_law_593 rfl ?_
        refine g_iconst d_law_594 ?_
        refine g_iadd d_law_595 ?_
        refine g_sld d_law_596 hsc hb76 rfl ?_
        refine g_aload_n d_law_597 rfl ?_
        refine g_iload_n d_law_598 rfl ?_
        refine g_iconst d_law_599 ?_
        refine g_iadd d_law_600 ?_
        refine g_sld d_law_601 hsc hb77 rfl ?_
        refine g_callV2I d_law_602 ml_law_70 vk_M_feed rfl ⟨_, rfl, rfl⟩ rfl rfl (Nat.le_of_ble_eq_true rfl) (w_M_feed (X := X) (d := d + 7) _ _ _) (fun q79 => ?_)
        refine s_icmp_eq d_law_605 (fun u80 => ?_) (fun u80 => ?_)
        · refine g_iinc d_law_1238 (by decide) rfl ?_
          refine g_goto d_law_1241 ?_
          exact ih _ _
        · refine g_iconst d_law_608 ?_
          refine g_zreturn d_law_609 rfl ?_ rfl
          rfl
      refine g_ite (fun u81 => ?_) (fun u81 => ?_)
      · refine g_tcase (off := 577) (tgt := 610) d_law_33 u81 (by decide) ?_
        refine g_aload_n d_law_610 rfl ?_
        refine g_callV0I d_law_611 ml_law_71 vk_S_wipe rfl ⟨_, rfl, rfl⟩ (Nat.le_of_ble_eq_true rfl) (w_S_wipe (X := X) (d := d + 8) _) (fun q82 => ?_)
        refine g_aload_n d_law_614 rfl ?_
        refine g_callV0I d_law_615 ml_law_75 vk_M_wipe rfl ⟨_, rfl, rfl⟩ (Nat.le_of_ble_eq_true rfl) (w_M_wipe (X := X) (d := d + 8) _) (fun q83 => ?_)
        refine s_icmp_eq d_law_618 (fun u84 => ?_) (fun u84 => ?_)
        · refine g_iinc d_law_1238 (by decide) rfl ?_
          refine g_goto d_law_1241 ?_
          exact ih _ _
        · refine g_iconst d_law_621 ?_
          refine g_zreturn d_law_622 rfl ?_ rfl
          rfl
      refine g_ite (fun u85 => ?_) (fun u85 => ?_)
      · refine g_tcase (off := 590) (tgt := 623) d_law_33 u85 (by decide) ?_
        refine g_aload_n d_law_623 rfl ?_
        refine g_callV0I d_law_624 ml_law_76 vk_S_text rfl ⟨_, rfl, rfl⟩ (Nat.le_of_ble_eq_true rfl) (w_S_text (X := X) (d := d) hs _) (fun q86 => ?_)
        refine g_aload_n d_law_627 rfl ?_
        refine g_callV0I d_law_628 ml_law_79 vk_M_text rfl ⟨_, rfl, rfl⟩ (Nat.le_of_ble_eq_true rfl) (w_M_text (X := X) (d := d + 1) hs _) (fun q87 => ?_)
        refine s_icmp_eq d_law_631 (fun u88 => ?_) (fun u88 => ?_)
        · refine g_iinc d_law_1238 (by decide) rfl ?_
          refine g_goto d_law_1241 ?_
          exact ih _ _
        · refine g_iconst d_law_634 ?_
          refine g_zreturn d_law_635 rfl ?_ rfl
          rfl
      refine g_ite (fun u89 => ?_) (fun u89 => ?_)
      · refine g_tcase (off := 603) (tgt := 636) d_law_33 u89 (by decide) ?_
        refine g_aload_n d_law_636 rfl ?_
        refine g_aload_n d_law_637 rfl ?_
        refine g_iload_n d_law_638 rfl ?_
        refine g_iconst d_law_639 ?_
        refine g_iadd d_law_640 ?_
        refine g_guard (fun hb90 => ?_)
        refine g_sld d_law_641 hsc hb90 rfl ?_
        refine g_callV1I d_law_642 ml_law_80 vk_S_planOf rfl ⟨_, rfl, rfl⟩ rfl (Nat.le_of_ble_eq_true rfl) (w_S_planOf (X := X) (d := d + 7) _ _) (fun q91 => ?_)
        refine g_aload_n d_law_645 rfl ?_
        refine g_aload_n d_law_646 rfl ?_
        refine g_iload_n d_law_647 rfl ?_
        refine g_iconst d_law_648 ?_
        refine g_iadd d_law_649 ?_
        refine g_sld d_law_650 hsc hb90 rfl ?_
        refine g_callV1I d_law_651 ml_law_83 vk_M_planOf rfl ⟨_, rfl, rfl⟩ rfl (Nat.le_of_ble_eq_true rfl) (w_M_planOf (X := X) (d := d + 7) _ _) (fun q92 => ?_)
        refine s_icmp_eq d_law_654 (fun u93 => ?_) (fun u93 => ?_)
        · refine g_iinc d_law_1238 (by decide) rfl ?_
          refine g_goto d_law_1241 ?_
          exact ih _ _
        · refine g_iconst d_law_657 ?_
          refine g_zreturn d_law_658 rfl ?_ rfl
          rfl
      refine g_ite (fun u94 => ?_) (fun u94 => ?_)
      · refine g_tcase (off := 626) (tgt := 659) d_law_33 u94 (by decide) ?_
        refine g_aload_n d_law_659 rfl ?_
        refine g_callV0I d_law_660 ml_law_84 vk_S_clear rfl ⟨_, rfl, rfl⟩ (Nat.le_of_ble_eq_true rfl) (w_S_clear (X := X) (d := d + 8) _) (fun q95 => ?_)
        refine g_aload_n d_law_663 rfl ?_
        refine g_callV0I d_law_664 ml_law_87 vk_M_clear rfl ⟨_, rfl, rfl⟩ (Nat.le_of_ble_eq_true rfl) (w_M_clear (X := X) (d := d + 8) _) (fun q96 => ?_)
        refine s_icmp_eq d_law_667 (fun u97 => ?_) (fun u97 => ?_)
        · refine g_iinc d_law_1238 (by decide) rfl ?_
          refine g_goto d_law_1241 ?_
          exact ih _ _
        · refine g_iconst d_law_670 ?_
          refine g_zreturn d_law_671 rfl ?_ rfl
          rfl
      refine g_ite (fun u98 => ?_) (fun u98 => ?_)
      · refine g_tcase (off := 639) (tgt := 672) d_law_33 u98 (by decide) ?_
        refine g_aload_n d_law_672 rfl ?_
        refine g_callV0I d_law_673 ml_law_88 vk_S_follow rfl ⟨_, rfl, rfl⟩ (Nat.le_of_ble_eq_true rfl) (w_S_follow (X := X) (d := d + 1) _) (fun q99 => ?_)
        refine g_aload_n d_law_676 rfl ?_
        refine g_callV0I d_law_677 ml_law_91 vk_M_follow rfl ⟨_, rfl, rfl⟩ (Nat.le_of_ble_eq_true rfl) (w_M_follow (X := X) (d := d + 2) _) (fun q100 => ?_)
        refine s_icmp_eq d_law_680 (fun u101 => ?_) (fun u101 => ?_)
        · refine g_iinc d_law_1238 (by decide) rfl ?_
          refine g_goto d_law_1241 ?_
          exact ih _ _
        · refine g_iconst d_law_683 ?_
          refine g_zreturn d_law_684 rfl ?_ rfl
          rfl
      refine g_ite (fun u102 => ?_) (fun u102 => ?_)
      · refine g_tcase (off := 652) (tgt := 685) d_law_33 u102 (by decide) ?_
        refine g_aload_n d_law_685 rfl ?_
        refine g_aload_n d_law_686 rfl ?_
        refine g_iload_n d_law_687 rfl ?_
        refine g_iconst d_law_688 ?_
        refine g_iadd d_law_689 ?_
        refine g_guard (fun hb103 => ?_)
        refine g_sld d_law_690 hsc hb103 rfl ?_
        refine g_callV1I d_law_691 ml_law_92 vk_S_plans rfl ⟨_, rfl, rfl⟩ rfl (Nat.le_of_ble_eq_true rfl) (w_S_plans (X := X) (d := d + 1) _ _) (fun q104 => ?_)
        refine g_aload_n d_law_694 rfl ?_
        refine g_aload_n d_law_695 rfl ?_
        refine g_iload_n d_law_696 rfl ?_
        refine g_iconst d_law_697 ?_
        refine g_iadd d_law_698 ?_
        refine g_sld d_law_699 hsc hb103 rfl ?_
        refine g_callV1I d_law_700 ml_law_95 vk_M_plans rfl ⟨_, rfl, rfl⟩ rfl (Nat.le_of_ble_eq_true rfl) (w_M_plans (X := X) (d := d + 2) _ _) (fun q105 => ?_)
        refine s_icmp_eq d_law_703 (fun u106 => ?_) (fun u106 => ?_)
        · refine g_iinc d_law_1238 (by decide) rfl ?_
          refine g_goto d_law_1241 ?_
          exact ih _ _
        · refine g_iconst d_law_706 ?_
          refine g_zreturn d_law_707 rfl ?_ rfl
          rfl
      refine g_ite (fun u107 => ?_) (fun u107 => ?_)
      · refine g_tcase (off := 675) (tgt := 708) d_law_33 u107 (by decide) ?_
        refine g_aload_n d_law_708 rfl ?_
        refine g_aload_n d_law_709 rfl ?_
        refine g_iload_n d_law_710 rfl ?_
        refine g_iconst d_law_711 ?_
        refine g_iadd d_law_712 ?_
        refine g_guard (fun hb108 => ?_)
        refine g_sld d_law_713 hsc hb108 rfl ?_
        refine g_aload_n d_law_714 rfl ?_
        refine g_iload_n d_law_715 rfl ?_
        refine g_iconst d_law_716 ?_
        refine g_iadd d_law_717 ?_
        refine g_guard (fun hb109 => ?_)
        refine g_sld d_law_718 hsc hb109 rfl ?_
        refine g_callV2I d_law_719 ml_law_96 vk_S_best rfl ⟨_, rfl, rfl⟩ rfl rfl (Nat.le_of_ble_eq_true rfl) (w_S_best (X := X) (d := d) _ _ _) (fun q110 => ?_)
        refine g_aload_n d_law_722 rfl ?_
        refine g_aload_n d_law_723 rfl ?_
        refine g_iload_n d_law_724 rfl ?_
        refine g_iconst d_law_725 ?_
        refine g_iadd d_law_726 ?_
        refine g_sld d_law_727 hsc hb108 rfl ?_
        refine g_aload_n d_law_728 rfl ?_
        refine g_iload_n d_law_729 rfl ?_
        refine g_iconst d_law_730 ?_
        refine g_iadd d_law_731 ?_
        refine g_sld d_law_732 hsc hb109 rfl ?_
        refine g_callV2I d_law_733 ml_law_99 vk_M_best rfl ⟨_, rfl, rfl⟩ rfl rfl (Nat.le_of_ble_eq_true rfl) (w_M_best (X := X) (d := d + 2) _ _ _) (fun q111 => ?_)
        refine s_icmp_eq d_law_736 (fun u112 => ?_) (fun u112 => ?_)
        · refine g_iinc d_law_1238 (by decide) rfl ?_
          refine g_goto d_law_1241 ?_
          exact ih _ _
        · refine g_iconst d_law_739 ?_
          refine g_zreturn d_law_740 rfl ?_ rfl
          rfl
      refine g_ite (fun u113 => ?_) (fun u113 => ?_)
      · refine g_tcase (off := 708) (tgt := 741) d_law_33 u113 (by decide) ?_
        refine g_aload_n d_law_741 rfl ?_
        refine g_aload_n d_law_742 rfl ?_
        refine g_iload_n d_law_743 rfl ?_
        refine g_iconst d_law_744 ?_
        refine g_iadd d_law_745 ?_
        refine g_guard (fun hb114 => ?_)
        refine g_sld d_law_746 hsc hb114 rfl ?_
        refine g_callV1I d_law_747 ml_law_100 vk_S_airFor rfl ⟨_, rfl, rfl⟩ rfl (Nat.le_of_ble_eq_true rfl) (w_S_airFor (X := X) (d := d + 6) _ _) (fun q115 => ?_)
        refine g_aload_n d_law_750 rfl ?_
        refine g_aload_n d_law_751 rfl ?_
        refine g_iload_n d_law_752 rfl ?_
        refine g_iconst d_law_753 ?_
        refine g_iadd d_law_754 ?_
        refine g_sld d_law_755 hsc hb114 rfl ?_
        refine g_callV1I d_law_756 ml_law_103 vk_M_airFor rfl ⟨_, rfl, rfl⟩ rfl (Nat.le_of_ble_eq_true rfl) (w_M_airFor (X := X) (d := d + 6) _ _) (fun q116 => ?_)
        refine s_icmp_eq d_law_759 (fun u117 => ?_) (fun u117 => ?_)
        · refine g_iinc d_law_1238 (by decide) rfl ?_
          refine g_goto d_law_1241 ?_
          exact ih _ _
        · refine g_iconst d_law_762 ?_
          refine g_zreturn d_law_763 rfl ?_ rfl
          rfl
      refine g_ite (fun u118 => ?_) (fun u118 => ?_)
      · refine g_tcase (off := 731) (tgt := 764) d_law_33 u118 (by decide) ?_
        refine g_aload_n d_law_764 rfl ?_
        refine g_aload_n d_law_765 rfl ?_
        refine g_iload_n d_law_766 rfl ?_
        refine g_iconst d_law_767 ?_
        refine g_iadd d_law_768 ?_
        refine g_guard (fun hb119 => ?_)
        refine g_sld d_law_769 hsc hb119 rfl ?_
        refine g_callV1I d_law_770 ml_law_104 vk_S_sacksFor rfl ⟨_, rfl, rfl⟩ rfl (Nat.le_of_ble_eq_true rfl) (w_S_sacksFor (X := X) (d := d + 6) _ _) (fun q120 => ?_)
        refine g_aload_n d_law_773 rfl ?_
        refine g_aload_n d_law_774 rfl ?_
        refine g_iload_n d_law_775 rfl ?_
        refine g_iconst d_law_776 ?_
        refine g_iadd d_law_777 ?_
        refine g_sld d_law_778 hsc hb119 rfl ?_
        refine g_callV1I d_law_779 ml_law_107 vk_M_sacksFor rfl ⟨_, rfl, rfl⟩ rfl (Nat.le_of_ble_eq_true rfl) (w_M_sacksFor (X := X) (d := d + 5) _ _) (fun q121 => ?_)
        refine s_icmp_eq d_law_782 (fun u122 => ?_) (fun u122 => ?_)
        · refine g_iinc d_law_1238 (by decide) rfl ?_
          refine g_goto d_law_1241 ?_
          exact ih _ _
        · refine g_iconst d_law_785 ?_
          refine g_zreturn d_law_786 rfl ?_ rfl
          rfl
      refine g_ite (fun u123 => ?_) (fun u123 => ?_)
      · refine g_tcase (off := 754) (tgt := 787) d_law_33 u123 (by decide) ?_
        refine g_aload_n d_law_787 rfl ?_
        refine g_callV0I d_law_788 ml_law_108 vk_S_waterFor rfl ⟨_, rfl, rfl⟩ (Nat.le_of_ble_eq_true rfl) (w_S_waterFor (X := X) (d := d + 1) _) (fun q124 => ?_)
        refine g_aload_n d_law_791 rfl ?_
        refine g_callV0I d_law_792 ml_law_111 vk_M_waterFor rfl ⟨_, rfl, rfl⟩ (Nat.le_of_ble_eq_true rfl) (w_M_waterFor (X := X) (d := d + 3) _) (fun q125 => ?_)
        refine s_icmp_eq d_law_795 (fun u126 => ?_) (fun u126 => ?_)
        · refine g_iinc d_law_1238 (by decide) rfl ?_
          refine g_goto d_law_1241 ?_
          exact ih _ _
        · refine g_iconst d_law_798 ?_
          refine g_zreturn d_law_799 rfl ?_ rfl
          rfl
      refine g_ite (fun u127 => ?_) (fun u127 => ?_)
      · refine g_tcase (off := 767) (tgt := 800) d_law_33 u127 (by decide) ?_
        refine g_aload_n d_law_800 rfl ?_
        refine g_aload_n d_law_801 rfl ?_
        refine g_iload_n d_law_802 rfl ?_
        refine g_iconst d_law_803 ?_
        refine g_iadd d_law_804 ?_
        refine g_guard (fun hb128 => ?_)
        refine g_sld d_law_805 hsc hb128 rfl ?_
        refine g_callV1I d_law_806 ml_law_112 vk_S_boardsFor rfl ⟨_, rfl, rfl⟩ rfl (Nat.le_of_ble_eq_true rfl) (w_S_boardsFor (X := X) (d := d + 3) _ _) (fun q129 => ?_)
        refine g_aload_n d_law_809 rfl ?_
        refine g_aload_n d_law_810 rfl ?_
        refine g_iload_n d_law_811 rfl ?_
        refine g_iconst d_law_812 ?_
        refine g_iadd d_law_813 ?_
        refine g_sld d_law_814 hsc hb128 rfl ?_
        refine g_callV1I d_law_815 ml_law_115 vk_M_boardsFor rfl ⟨_, rfl, rfl⟩ rfl (Nat.le_of_ble_eq_true rfl) (w_M_boardsFor (X := X) (d := d + 3) _ _) (fun q130 => ?_)
        refine s_icmp_eq d_law_818 (fun u131 => ?_) (fun u131 => ?_)
        · refine g_iinc d_law_1238 (by decide) rfl ?_
          refine g_goto d_law_1241 ?_
          exact ih _ _
        · refine g_iconst d_law_821 ?_
          refine g_zreturn d_law_822 rfl ?_ rfl
          rfl
      refine g_ite (fun u132 => ?_) (fun u132 => ?_)
      · refine g_tcase (off := 790) (tgt := 823) d_law_33 u132 (by decide) ?_
        refine g_aload_n d_law_823 rfl ?_
        refine g_callV0I d_law_824 ml_law_116 vk_S_way rfl ⟨_, rfl, rfl⟩ (Nat.le_of_ble_eq_true rfl) (w_S_way (X := X) (d := d + 2) _) (fun q133 => ?_)
        refine g_aload_n d_law_827 rfl ?_
        refine g_callV0I d_law_828 ml_law_119 vk_M_way rfl ⟨_, rfl, rfl⟩ (Nat.le_of_ble_eq_true rfl) (w_M_way (X := X) (d := d + 1) _) (fun q134 => ?_)
        refine s_icmp_eq d_law_831 (fun u135 => ?_) (fun u135 => ?_)
        · refine g_iinc d_law_1238 (by decide) rfl ?_
          refine g_goto d_law_1241 ?_
          exact ih _ _
        · refine g_iconst d_law_834 ?_
          refine g_zreturn d_law_835 rfl ?_ rfl
          rfl
      refine g_ite (fun u136 => ?_) (fun u136 => ?_)
      · refine g_tcase (off := 803) (tgt := 836) d_law_33 u136 (by decide) ?_
        refine g_aload_n d_law_836 rfl ?_
        refine g_aload_n d_law_837 rfl ?_
        refine g_iload_n d_law_838 rfl ?_
        refine g_iconst d_law_839 ?_
        refine g_iadd d_law_840 ?_
        refine g_guard (fun hb137 => ?_)
        refine g_sld d_law_841 hsc hb137 rfl ?_
        refine g_callV1I d_law_842 ml_law_120 vk_S_odds rfl ⟨_, rfl, rfl⟩ rfl (Nat.le_of_ble_eq_true rfl) (w_S_odds (X := X) (d := d + 6) _ _) (fun q138 => ?_)
        refine g_aload_n d_law_845 rfl ?_
        refine g_aload_n d_law_846 rfl ?_
        refine g_iload_n d_law_847 rfl ?_
        refine g_iconst d_law_848 ?_
        refine g_iadd d_law_849 ?_
        refine g_sld d_law_850 hsc hb137 rfl ?_
        refine g_callV1I d_law_851 ml_law_123 vk_M_odds rfl ⟨_, rfl, rfl⟩ rfl (Nat.le_of_ble_eq_true rfl) (w_M_odds (X := X) (d := d + 5) _ _) (fun q139 => ?_)
        refine s_icmp_eq d_law_854 (fun u140 => ?_) (fun u140 => ?_)
        · refine g_iinc d_law_1238 (by decide) rfl ?_
          refine g_goto d_law_1241 ?_
          exact ih _ _
        · refine g_iconst d_law_857 ?_
          refine g_zreturn d_law_858 rfl ?_ rfl
          rfl
      refine g_ite (fun u141 => ?_) (fun u141 => ?_)
      · refine g_tcase (off := 826) (tgt := 859) d_law_33 u141 (by decide) ?_
        refine g_aload_n d_law_859 rfl ?_
        refine g_aload_n d_law_860 rfl ?_
        refine g_iload_n d_law_861 rfl ?_
        refine g_iconst d_law_862 ?_
        refine g_iadd d_law_863 ?_
        refine g_guard (fun hb142 => ?_)
        refine g_sld d_law_864 hsc hb142 rfl ?_
        refine g_callV1I d_law_865 ml_law_124 vk_S_seed rfl ⟨_, rfl, rfl⟩ rfl (Nat.le_of_ble_eq_true rfl) (w_S_seed (X := X) (d := d + 8) _ _) (fun q143 => ?_)
        refine g_aload_n d_law_868 rfl ?_
        refine g_aload_n d_law_869 rfl ?_
        refine g_iload_n d_law_870 rfl ?_
        refine g_iconst d_law_871 ?_
        refine g_iadd d_law_872 ?_
        refine g_sld d_law_873 hsc hb142 rfl ?_
        refine g_callV1I d_law_874 ml_law_127 vk_M_seed rfl ⟨_, rfl, rfl⟩ rfl (Nat.le_of_ble_eq_true rfl) (w_M_seed (X := X) (d := d + 8) _ _) (fun q144 => ?_)
        refine s_icmp_eq d_law_877 (fun u145 => ?_) (fun u145 => ?_)
        · refine g_iinc d_law_1238 (by decide) rfl ?_
          refine g_goto d_law_1241 ?_
          exact ih _ _
        · refine g_iconst d_law_880 ?_
          refine g_zreturn d_law_881 rfl ?_ rfl
          rfl
      refine g_ite (fun u146 => ?_) (fun u146 => ?_)
      · refine g_tcase (off := 849) (tgt := 882) d_law_33 u146 (by decide) ?_
        refine g_aload_n d_law_882 rfl ?_
        refine g_aload_n d_law_883 rfl ?_
        refine g_iload_n d_law_884 rfl ?_
        refine g_iconst d_law_885 ?_
        refine g_iadd d_law_886 ?_
        refine g_guard (fun hb147 => ?_)
        refine g_sld d_law_887 hsc hb147 rfl ?_
        refine g_aload_n d_law_888 rfl ?_
        refine g_iload_n d_law_889 rfl ?_
        refine g_iconst d_law_890 ?_
        refine g_iadd d_law_891 ?_
        refine g_guard (fun hb148 => ?_)
        refine g_sld d_law_892 hsc hb148 rfl ?_
        refine g_callV2I d_law_893 ml_law_128 vk_S_hold rfl ⟨_, rfl, rfl⟩ rfl rfl (Nat.le_of_ble_eq_true rfl) (w_S_hold (X := X) (d := d + 7) _ _ _) (fun q149 => ?_)
        refine g_aload_n d_law_896 rfl ?_
        refine g_aload_n d_law_897 rfl ?_
        refine g_iload_n d_law_898 rfl ?_
        refine g_iconst d_law_899 ?_
        refine g_iadd d_law_900 ?_
        refine g_sld d_law_901 hsc hb147 rfl ?_
        refine g_aload_n d_law_902 rfl ?_
        refine g_iload_n d_law_903 rfl ?_
        refine g_iconst d_law_904 ?_
        refine g_iadd d_law_905 ?_
        refine g_sld d_law_906 hsc hb148 rfl ?_
        refine g_callV2I d_law_907 ml_law_131 vk_M_hold rfl ⟨_, rfl, rfl⟩ rfl rfl (Nat.le_of_ble_eq_true rfl) (w_M_hold (X := X) (d := d + 6) _ _ _) (fun q150 => ?_)
        refine s_icmp_eq d_law_910 (fun u151 => ?_) (fun u151 => ?_)
        · refine g_iinc d_law_1238 (by decide) rfl ?_
          refine g_goto d_law_1241 ?_
          exact ih _ _
        · refine g_iconst d_law_913 ?_
          refine g_zreturn d_law_914 rfl ?_ rfl
          rfl
      refine g_ite (fun u152 => ?_) (fun u152 => ?_)
      · refine g_tcase (off := 882) (tgt := 915) d_law_33 u152 (by decide) ?_
        refine g_aload_n d_law_915 rfl ?_
        refine g_aload_n d_law_916 rfl ?_
        refine g_iload_n d_law_917 rfl ?_
        refine g_iconst d_law_918 ?_
        refine g_iadd d_law_919 ?_
        refine g_guard (fun hb153 => ?_)
        refine g_sld d_law_920 hsc hb153 rfl ?_
        refine g_aload_n d_law_921 rfl ?_
        refine g_iload_n d_law_922 rfl ?_
        refine g_iconst d_law_923 ?_
        refine g_iadd d_law_924 ?_
        refine g_guard (fun hb154 => ?_)
        refine g_sld d_law_925 hsc hb154 rfl ?_
        refine g_callV2I d_law_926 ml_law_132 vk_S_as rfl ⟨_, rfl, rfl⟩ rfl rfl (Nat.le_of_ble_eq_true rfl) (w_S_as (X := X) (d := d + 6) _ _ _) (fun q155 => ?_)
        refine g_aload_n d_law_929 rfl ?_
        refine g_aload_n d_law_930 rfl ?_
        refine g_iload_n d_law_931 rfl ?_
        refine g_iconst d_law_932 ?_
        refine g_iadd d_law_933 ?_
        refine g_sld d_law_934 hsc hb153 rfl ?_
        refine g_aload_n d_law_935 rfl ?_
        refine g_iload_n d_law_936 rfl ?_
        refine g_iconst d_law_937 ?_
        refine g_iadd d_law_938 ?_
        refine g_sld d_law_939 hsc hb154 rfl ?_
        refine g_callV2I d_law_940 ml_law_135 vk_M_as rfl ⟨_, rfl, rfl⟩ rfl rfl (Nat.le_of_ble_eq_true rfl) (w_M_as (X := X) (d := d + 6) _ _ _) (fun q156 => ?_)
        refine s_icmp_eq d_law_943 (fun u157 => ?_) (fun u157 => ?_)
        · refine g_iinc d_law_1238 (by decide) rfl ?_
          refine g_goto d_law_1241 ?_
          exact ih _ _
        · refine g_iconst d_law_946 ?_
          refine g_zreturn d_law_947 rfl ?_ rfl
          rfl
      refine g_ite (fun u158 => ?_) (fun u158 => ?_)
      · refine g_tcase (off := 915) (tgt := 948) d_law_33 u158 (by decide) ?_
        refine g_aload_n d_law_948 rfl ?_
        refine g_aload_n d_law_949 rfl ?_
        refine g_iload_n d_law_950 rfl ?_
        refine g_iconst d_law_951 ?_
        refine g_iadd d_law_952 ?_
        refine g_guard (fun hb159 => ?_)
        refine g_sld d_law_953 hsc hb159 rfl ?_
        refine g_aload_n d_law_954 rfl ?_
        refine g_iload_n d_law_955 rfl ?_
        refine g_iconst d_law_956 ?_
        refine g_iadd d_law_957 ?_
        refine g_guard (fun hb160 => ?_)
        refine g_sld d_law_958 hsc hb160 rfl ?_
        refine g_aload_n d_law_959 rfl ?_
        refine g_iload_n d_law_960 rfl ?_
        refine g_iconst d_law_961 ?_
        refine g_iadd d_law_962 ?_
        refine g_guard (fun hb161 => ?_)
        refine g_sld d_law_963 hsc hb161 rfl ?_
        refine g_callV3I d_law_964 ml_law_136 vk_S_sheet rfl ⟨_, rfl, rfl⟩ rfl rfl rfl (Nat.le_of_ble_eq_true rfl) (w_S_sheet (X := X) (d := d + 6) _ _ _ _) (fun q162 => ?_)
        refine g_aload_n d_law_967 rfl ?_
        refine g_aload_n d_law_968 rfl ?_
        refine g_iload_n d_law_969 rfl ?_
        refine g_iconst d_law_970 ?_
        refine g_iadd d_law_971 ?_
        refine g_sld d_law_972 hsc hb159 rfl ?_
        refine g_aload_n d_law_973 rfl ?_
        refine g_iload_n d_law_974 rfl ?_
        refine g_iconst d_law_975 ?_
        refine g_iadd d_law_976 ?_
        refine g_sld d_law_977 hsc hb160 rfl ?_
        refine g_aload_n d_law_978 rfl ?_
        refine g_iload_n d_law_979 rfl ?_
        refine g_iconst d_law_980 ?_
        refine g_iadd d_law_981 ?_
        refine g_sld d_law_982 hsc hb161 rfl ?_
        refine g_callV3I d_law_983 ml_law_140 vk_M_sheet rfl ⟨_, rfl, rfl⟩ rfl rfl rfl (Nat.le_of_ble_eq_true rfl) (w_M_sheet (X := X) (d := d + 6) _ _ _ _) (fun q163 => ?_)
        refine s_icmp_eq d_law_986 (fun u164 => ?_) (fun u164 => ?_)
        · refine g_iinc d_law_1238 (by decide) rfl ?_
          refine g_goto d_law_1241 ?_
          exact ih _ _
        · refine g_iconst d_law_989 ?_
          refine g_zreturn d_law_990 rfl ?_ rfl
          rfl
      refine g_ite (fun u165 => ?_) (fun u165 => ?_)
      · refine g_tcase (off := 958) (tgt := 991) d_law_33 u165 (by decide) ?_
        refine g_aload_n d_law_991 rfl ?_
        refine g_aload_n d_law_992 rfl ?_
        refine g_iload_n d_law_993 rfl ?_
        refine g_iconst d_law_994 ?_
        refine g_iadd d_law_995 ?_
        refine g_guard (fun hb166 => ?_)
        refine g_sld d_law_996 hsc hb166 rfl ?_
        refine g_aload_n d_law_997 rfl ?_
        refine g_iload_n d_law_998 rfl ?_
        refine g_iconst d_law_999 ?_
        refine g_iadd d_law_1000 ?_
        refine g_guard (fun hb167 => ?_)
        refine g_sld d_law_1001 hsc hb167 rfl ?_
        refine g_aload_n d_law_1002 rfl ?_
        refine g_iload_n d_law_1003 rfl ?_
        refine g_iconst d_law_1004 ?_
        refine g_iadd d_law_1005 ?_
        refine g_guard (fun hb168 => ?_)
        refine g_sld d_law_1006 hsc hb168 rfl ?_
        refine g_callV3I d_law_1007 ml_law_141 vk_S_write rfl ⟨_, rfl, rfl⟩ rfl rfl rfl (Nat.le_of_ble_eq_true rfl) (w_S_write (X := X) (d := d + 7) _ _ _ _) (fun q169 => ?_)
        refine g_aload_n d_law_1010 rfl ?_
        refine g_aload_n d_law_1011 rfl ?_
        refine g_iload_n d_law_1012 rfl ?_
        refine g_iconst d_law_1013 ?_
        refine g_iadd d_law_1014 ?_
        refine g_sld d_law_1015 hsc hb166 rfl ?_
        refine g_aload_n d_law_1016 rfl ?_
        refine g_iload_n d_law_1017 rfl ?_
        refine g_iconst d_law_1018 ?_
        refine g_iadd d_law_1019 ?_
        refine g_sld d_law_1020 hsc hb167 rfl ?_
        refine g_aload_n d_law_1021 rfl ?_
        refine g_iload_n d_law_1022 rfl ?_
        refine g_iconst d_law_1023 ?_
        refine g_iadd d_law_1024 ?_
        refine g_sld d_law_1025 hsc hb168 rfl ?_
        refine g_callV3I d_law_1026 ml_law_144 vk_M_write rfl ⟨_, rfl, rfl⟩ rfl rfl rfl (Nat.le_of_ble_eq_true rfl) (w_M_write (X := X) (d := d + 6) _ _ _ _) (fun q170 => ?_)
        refine s_icmp_eq d_law_1029 (fun u171 => ?_) (fun u171 => ?_)
        · refine g_iinc d_law_1238 (by decide) rfl ?_
          refine g_goto d_law_1241 ?_
          exact ih _ _
        · refine g_iconst d_law_1032 ?_
          refine g_zreturn d_law_1033 rfl ?_ rfl
          rfl
      refine g_ite (fun u172 => ?_) (fun u172 => ?_)
      · refine g_tcase (off := 1001) (tgt := 1034) d_law_33 u172 (by decide) ?_
        refine g_aload_n d_law_1034 rfl ?_
        refine g_aload_n d_law_1035 rfl ?_
        refine g_iload_n d_law_1036 rfl ?_
        refine g_iconst d_law_1037 ?_
        refine g_iadd d_law_1038 ?_
        refine g_guard (fun hb173 => ?_)
        refine g_sld d_law_1039 hsc hb173 rfl ?_
        refine g_aload_n d_law_1040 rfl ?_
        refine g_iload_n d_law_1041 rfl ?_
        refine g_iconst d_law_1042 ?_
        refine g_iadd d_law_1043 ?_
        refine g_guard (fun hb174 => ?_)
        refine g_sld d_law_1044 hsc hb174 rfl ?_
        refine g_aload_n d_law_1045 rfl ?_
        refine g_iload_n d_law_1046 rfl ?_
        refine g_iconst d_law_1047 ?_
        refine g_iadd d_law_1048 ?_
        refine g_guard (fun hb175 => ?_)
        refine g_sld d_law_1049 hsc hb175 rfl ?_
        refine g_aload_n d_law_1050 rfl ?_
        refine g_iload_n d_law_1051 rfl ?_
        refine g_iconst d_law_1052 ?_
        refine g_iadd d_law_1053 ?_
        refine g_guard (fun hb176 => ?_)
        refine g_sld d_law_1054 hsc hb176 rfl ?_
        refine g_aload_n d_law_1055 rfl ?_
        refine g_iload_n d_law_1056 rfl ?_
        refine g_iconst d_law_1057 ?_
        refine g_iadd d_law_1058 ?_
        refine g_guard (fun hb177 => ?_)
        refine g_sld d_law_1059 hsc hb177 rfl ?_
        refine g_callV5I d_law_1060 ml_law_145 vk_S_copy rfl ⟨_, rfl, rfl⟩ rfl rfl rfl rfl rfl (Nat.le_of_ble_eq_true rfl) (w_S_copy (X := X) (d := d + 7) _ _ _ _ _ _) (fun q178 => ?_)
        refine g_aload_n d_law_1063 rfl ?_
        refine g_aload_n d_law_1064 rfl ?_
        refine g_iload_n d_law_1065 rfl ?_
        refine g_iconst d_law_1066 ?_
        refine g_iadd d_law_1067 ?_
        refine g_sld d_law_1068 hsc hb173 rfl ?_
        refine g_aload_n d_law_1069 rfl ?_
        refine g_iload_n d_law_1070 rfl ?_
        refine g_iconst d_law_1071 ?_
        refine g_iadd d_law_1072 ?_
        refine g_sld d_law_1073 hsc hb174 rfl ?_
        refine g_aload_n d_law_1074 rfl ?_
        refine g_iload_n d_law_1075 rfl ?_
        refine g_iconst d_law_1076 ?_
        refine g_iadd d_law_1077 ?_
        refine g_sld d_law_1078 hsc hb175 rfl ?_
        refine g_aload_n d_law_1079 rfl ?_
        refine g_iload_n d_law_1080 rfl ?_
        refine g_iconst d_law_1081 ?_
        refine g_iadd d_law_1082 ?_
        refine g_sld d_law_1083 hsc hb176 rfl ?_
        refine g_aload_n d_law_1084 rfl ?_
        refine g_iload_n d_law_1085 rfl ?_
        refine g_iconst d_law_1086 ?_
        refine g_iadd d_law_1087 ?_
        refine g_sld d_law_1088 hsc hb177 rfl ?_
        refine g_callV5I d_law_1089 ml_law_149 vk_M_copy rfl ⟨_, rfl, rfl⟩ rfl rfl rfl rfl rfl (Nat.le_of_ble_eq_true rfl) (w_M_copy (X := X) (d := d + 6) _ _ _ _ _ _) (fun q179 => ?_)
        refine s_icmp_eq d_law_1092 (fun u180 => ?_) (fun u180 => ?_)
        · refine g_iinc d_law_1238 (by decide) rfl ?_
          refine g_goto d_law_1241 ?_
          exact ih _ _
        · refine g_iconst d_law_1095 ?_
          refine g_zreturn d_law_1096 rfl ?_ rfl
          rfl
      refine g_ite (fun u181 => ?_) (fun u181 => ?_)
      · refine g_tcase (off := 1064) (tgt := 1097) d_law_33 u181 (by decide) ?_
        refine g_aload_n d_law_1097 rfl ?_
        refine g_aload_n d_law_1098 rfl ?_
        refine g_iload_n d_law_1099 rfl ?_
        refine g_iconst d_law_1100 ?_
        refine g_iadd d_law_1101 ?_
        refine g_guard (fun hb182 => ?_)
        refine g_sld d_law_1102 hsc hb182 rfl ?_
        refine g_aload_n d_law_1103 rfl ?_
        refine g_iload_n d_law_1104 rfl ?_
        refine g_iconst d_law_1105 ?_
        refine g_iadd d_law_1106 ?_
        refine g_guard (fun hb183 => ?_)
        refine g_sld d_law_1107 hsc hb183 rfl ?_
        refine g_callV2I d_law_1108 ml_law_150 vk_S_load rfl ⟨_, rfl, rfl⟩ rfl rfl (Nat.le_of_ble_eq_true rfl) (w_S_load (X := X) (d := d + 7) _ _ _) (fun q184 => ?_)
        refine g_aload_n d_law_1111 rfl ?_
        refine g_aload_n d_law_1112 rfl ?_
        refine g_iload_n d_law_1113 rfl ?_
        refine g_iconst d_law_1114 ?_
        refine g_iadd d_law_1115 ?_
        refine g_sld d_law_1116 hsc hb182 rfl ?_
        refine g_aload_n d_law_1117 rfl ?_
        refine g_iload_n d_law_1118 rfl ?_
        refine g_iconst d_law_1119 ?_
        refine g_iadd d_law_1120 ?_
        refine g_sld d_law_1121 hsc hb183 rfl ?_
        refine g_callV2I d_law_1122 ml_law_153 vk_M_load rfl ⟨_, rfl, rfl⟩ rfl rfl (Nat.le_of_ble_eq_true rfl) (w_M_load (X := X) (d := d + 5) _ _ _) (fun q185 => ?_)
        refine s_icmp_eq d_law_1125 (fun u186 => ?_) (fun u186 => ?_)
        · refine g_iinc d_law_1238 (by decide) rfl ?_
          refine g_goto d_law_1241 ?_
          exact ih _ _
        · refine g_iconst d_law_1128 ?_
          refine g_zreturn d_law_1129 rfl ?_ rfl
          rfl
      refine g_ite (fun u187 => ?_) (fun u187 => ?_)
      · refine g_tcase (off := 1097) (tgt := 1130) d_law_33 u187 (by decide) ?_
        refine g_aload_n d_law_1130 rfl ?_
        refine g_aload_n d_law_1131 rfl ?_
        refine g_iload_n d_law_1132 rfl ?_
        refine g_iconst d_law_1133 ?_
        refine g_iadd d_law_1134 ?_
        refine g_guard (fun hb188 => ?_)
        refine g_sld d_law_1135 hsc hb188 rfl ?_
        refine g_callV1I d_law_1136 ml_law_154 vk_S_judge rfl ⟨_, rfl, rfl⟩ rfl (Nat.le_of_ble_eq_true rfl) (w_S_judge (X := X) (d := d + 2) _ _) (fun q189 => ?_)
        refine g_aload_n d_law_1139 rfl ?_
        refine g_aload_n d_law_1140 rfl ?_
        refine g_iload_n d_law_1141 rfl ?_
        refine g_iconst d_law_1142 ?_
        refine g_iadd d_law_1143 ?_
        refine g_sld d_law_1144 hsc hb188 rfl ?_
        refine g_callV1I d_law_1145 ml_law_157 vk_M_judge rfl ⟨_, rfl, rfl⟩ rfl (Nat.le_of_ble_eq_true rfl) (w_M_judge (X := X) (d := d + 3) _ _) (fun q190 => ?_)
        refine s_icmp_eq d_law_1148 (fun u191 => ?_) (fun u191 => ?_)
        · refine g_iinc d_law_1238 (by decide) rfl ?_
          refine g_goto d_law_1241 ?_
          exact ih _ _
        · refine g_iconst d_law_1151 ?_
          refine g_zreturn d_law_1152 rfl ?_ rfl
          rfl
      refine g_ite (fun u192 => ?_) (fun u192 => ?_)
      · refine g_tcase (off := 1120) (tgt := 1153) d_law_33 u192 (by decide) ?_
        refine g_aload_n d_law_1153 rfl ?_
        refine g_callV0I d_law_1154 ml_law_158 vk_S_image rfl ⟨_, rfl, rfl⟩ (Nat.le_of_ble_eq_true rfl) (w_S_image (X := X) (d := d + 5) _) (fun q193 => ?_)
        refine g_aload_n d_law_1157 rfl ?_
        refine g_callV0I d_law_1158 ml_law_161 vk_M_image rfl ⟨_, rfl, rfl⟩ (Nat.le_of_ble_eq_true rfl) (w_M_image (X := X) (d := d + 7) _) (fun q194 => ?_)
        refine s_icmp_eq d_law_1161 (fun u195 => ?_) (fun u195 => ?_)
        · refine g_iinc d_law_1238 (by decide) rfl ?_
          refine g_goto d_law_1241 ?_
          exact ih _ _
        · refine g_iconst d_law_1164 ?_
          refine g_zreturn d_law_1165 rfl ?_ rfl
          rfl
      refine g_ite (fun u196 => ?_) (fun u196 => ?_)
      · refine g_tcase (off := 1133) (tgt := 1166) d_law_33 u196 (by decide) ?_
        refine g_aload_n d_law_1166 rfl ?_
        refine g_callV0I d_law_1167 ml_law_162 vk_S_undo rfl ⟨_, rfl, rfl⟩ (Nat.le_of_ble_eq_true rfl) (w_S_undo (X := X) (d := d + 5) _) (fun q197 => ?_)
        refine g_aload_n d_law_1170 rfl ?_
        refine g_callV0I d_law_1171 ml_law_165 vk_M_undo rfl ⟨_, rfl, rfl⟩ (Nat.le_of_ble_eq_true rfl) (w_M_undo (X := X) (d := d + 7) _) (fun q198 => ?_)
        refine s_icmp_eq d_law_1174 (fun u199 => ?_) (fun u199 => ?_)
        · refine g_iinc d_law_1238 (by decide) rfl ?_
          refine g_goto d_law_1241 ?_
          exact ih _ _
        · refine g_iconst d_law_1177 ?_
          refine g_zreturn d_law_1178 rfl ?_ rfl
          rfl
      refine g_ite (fun u200 => ?_) (fun u200 => ?_)
      · refine g_tcase (off := 1146) (tgt := 1179) d_law_33 u200 (by decide) ?_
        refine g_aload_n d_law_1179 rfl ?_
        refine g_callV0I d_law_1180 ml_law_166 vk_S_tear rfl ⟨_, rfl, rfl⟩ (Nat.le_of_ble_eq_true rfl) (w_S_tear (X := X) (d := d + 8) _) (fun q201 => ?_)
        refine g_aload_n d_law_1183 rfl ?_
        refine g_callV0I d_law_1184 ml_law_169 vk_M_tear rfl ⟨_, rfl, rfl⟩ (Nat.le_of_ble_eq_true rfl) (w_M_tear (X := X) (d := d + 8) _) (fun q202 => ?_)
        refine s_icmp_eq d_law_1187 (fun u203 => ?_) (fun u203 => ?_)
        · refine g_iinc d_law_1238 (by decide) rfl ?_
          refine g_goto d_law_1241 ?_
          exact ih _ _
        · refine g_iconst d_law_1190 ?_
          refine g_zreturn d_law_1191 rfl ?_ rfl
          rfl
      refine g_ite (fun u204 => ?_) (fun u204 => ?_)
      · refine g_tcase (off := 1159) (tgt := 1192) d_law_33 u204 (by decide) ?_
        refine g_aload_n d_law_1192 rfl ?_
        refine g_aload_n d_law_1193 rfl ?_
        refine g_iload_n d_law_1194 rfl ?_
        refine g_iconst d_law_1195 ?_
        refine g_iadd d_law_1196 ?_
        refine g_guard (fun hb205 => ?_)
        refine g_sld d_law_1197 hsc hb205 rfl ?_
        refine g_callV1I d_law_1198 ml_law_170 vk_S_count rfl ⟨_, rfl, rfl⟩ rfl (Nat.le_of_ble_eq_true rfl) (w_S_count (X := X) (d := d + 7) _ _) (fun q206 => ?_)
        refine g_aload_n d_law_1201 rfl ?_
        refine g_aload_n d_law_1202 rfl ?_
        refine g_iload_n d_law_1203 rfl ?_
        refine g_iconst d_law_1204 ?_
        refine g_iadd d_law_1205 ?_
        refine g_sld d_law_1206 hsc hb205 rfl ?_
        refine g_callV1I d_law_1207 ml_law_173 vk_M_count rfl ⟨_, rfl, rfl⟩ rfl (Nat.le_of_ble_eq_true rfl) (w_M_count (X := X) (d := d + 7) _ _) (fun q207 => ?_)
        refine s_icmp_eq d_law_1210 (fun u208 => ?_) (fun u208 => ?_)
        · refine g_iinc d_law_1238 (by decide) rfl ?_
          refine g_goto d_law_1241 ?_
          exact ih _ _
        · refine g_iconst d_law_1213 ?_
          refine g_zreturn d_law_1214 rfl ?_ rfl
          rfl
      refine g_ite (fun u209 => ?_) (fun u209 => ?_)
      · refine g_tcase (off := 1182) (tgt := 1215) d_law_33 u209 (by decide) ?_
        refine g_aload_n d_law_1215 rfl ?_
        refine g_aload_n d_law_1216 rfl ?_
        refine g_iload_n d_law_1217 rfl ?_
        refine g_iconst d_law_1218 ?_
        refine g_iadd d_law_1219 ?_
        refine g_guard (fun hb210 => ?_)
        refine g_sld d_law_1220 hsc hb210 rfl ?_
        refine g_callV1I d_law_1221 ml_law_174 vk_S_status rfl ⟨_, rfl, rfl⟩ rfl (Nat.le_of_ble_eq_true rfl) (w_S_status (X := X) (d := d + 7) _ _) (fun q211 => ?_)
        refine g_aload_n d_law_1224 rfl ?_
        refine g_aload_n d_law_1225 rfl ?_
        refine g_iload_n d_law_1226 rfl ?_
        refine g_iconst d_law_1227 ?_
        refine g_iadd d_law_1228 ?_
        refine g_sld d_law_1229 hsc hb210 rfl ?_
        refine g_callV1I d_law_1230 ml_law_177 vk_M_status rfl ⟨_, rfl, rfl⟩ rfl (Nat.le_of_ble_eq_true rfl) (w_M_status (X := X) (d := d + 7) _ _) (fun q212 => ?_)
        refine s_icmp_eq d_law_1233 (fun u213 => ?_) (fun u213 => ?_)
        · refine g_iinc d_law_1238 (by decide) rfl ?_
          refine g_goto d_law_1241 ?_
          exact ih _ _
        · refine g_iconst d_law_1236 ?_
          refine g_zreturn d_law_1237 rfl ?_ rfl
          rfl
      have eu3 := ne32 (n := 0) u3 (by decide)
      have eu9 := ne32 (n := 1) u9 (by decide)
      have eu15 := ne32 (n := 2) u15 (by decide)
      have eu21 := ne32 (n := 3) u21 (by decide)
      have eu26 := ne32 (n := 4) u26 (by decide)
      have eu32 := ne32 (n := 5) u32 (by decide)
      have eu37 := ne32 (n := 6) u37 (by decide)
      have eu43 := ne32 (n := 7) u43 (by decide)
      have eu49 := ne32 (n := 8) u49 (by decide)
      have eu54 := ne32 (n := 9) u54 (by decide)
      have eu60 := ne32 (n := 10) u60 (by decide)
      have eu65 := ne32 (n := 11) u65 (by decide)
      have eu70 := ne32 (n := 12) u70 (by decide)
      have eu75 := ne32 (n := 13) u75 (by decide)
      have eu81 := ne32 (n := 14) u81 (by decide)
      have eu85 := ne32 (n := 15) u85 (by decide)
      have eu89 := ne32 (n := 16) u89 (by decide)
      have eu94 := ne32 (n := 17) u94 (by decide)
      have eu98 := ne32 (n := 18) u98 (by decide)
      have eu102 := ne32 (n := 19) u102 (by decide)
      have eu107 := ne32 (n := 20) u107 (by decide)
      have eu113 := ne32 (n := 21) u113 (by decide)
      have eu118 := ne32 (n := 22) u118 (by decide)
      have eu123 := ne32 (n := 23) u123 (by decide)
      have eu127 := ne32 (n := 24) u127 (by decide)
      have eu132 := ne32 (n := 25) u132 (by decide)
      have eu136 := ne32 (n := 26) u136 (by decide)
      have eu141 := ne32 (n := 27) u141 (by decide)
      have eu146 := ne32 (n := 28) u146 (by decide)
      have eu152 := ne32 (n := 29) u152 (by decide)
      have eu158 := ne32 (n := 30) u158 (by decide)
      have eu165 := ne32 (n := 31) u165 (by decide)
      have eu172 := ne32 (n := 32) u172 (by decide)
      have eu181 := ne32 (n := 33) u181 (by decide)
      have eu187 := ne32 (n := 34) u187 (by decide)
      have eu192 := ne32 (n := 35) u192 (by decide)
      have eu196 := ne32 (n := 36) u196 (by decide)
      have eu200 := ne32 (n := 37) u200 (by decide)
      have eu204 := ne32 (n := 38) u204 (by decide)
      have eu209 := ne32 (n := 39) u209 (by decide)
      refine g_tdef (tgt := 1238) d_law_33 (by omega) (by decide) ?_
      refine g_iinc d_law_1238 (by decide) rfl ?_
      refine g_goto d_law_1241 ?_
      exact ih _ _
