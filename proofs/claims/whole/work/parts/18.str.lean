def wb : List (List Int32) := [[101, 102, 102, 111, 114, 116], [100, 117, 103], [98, 111, 97, 114, 100, 101, 100], [108, 105, 103, 104, 116, 101, 110, 101, 100], [108, 101, 116, 100, 111, 119, 110], [100, 114, 97, 119, 110], [98, 97, 99, 107, 101, 100], [119, 97, 105, 116, 101, 100], [115, 97, 110, 100], [115, 97, 99, 107, 115], [97, 105, 114], [98, 111, 97, 114, 100, 115], [112, 101, 111, 112, 108, 101], [119, 97, 116, 101, 114]]
def wn (j : Nat) : Nat := (wb.getD j []).length
def wl (j : Nat) : Int32 := Int32.ofNat (wn j)
def wc (j i : Nat) : Int32 := (wb.getD j []).getD i 0
def wT : List String := ["effort", "dug", "boarded", "lightened", "letdown", "drawn", "backed", "waited", "sand", "sacks", "air", "boards", "people", "water"]
def strT : List (String × Nat × Nat) := [("SandLorry$Tape", 116, 0), ("SandLorry$Tape", 118, 1), ("SandLorry$Tape", 120, 2), ("SandLorry$Tape", 122, 3), ("SandLorry$Tape", 124, 4), ("SandLorry$Tape", 126, 5), ("SandLorry$Tape", 128, 6), ("SandLorry$Tape", 130, 7), ("SandLorry$Tape", 132, 8), ("SandLorry$Tape", 134, 9), ("SandLorry$Tape", 136, 10), ("SandLorry$Tape", 138, 11), ("SandLorry$Tape", 140, 12), ("SandLorry$Tape", 142, 13), ("SandLorryModel", 170, 8), ("SandLorryModel", 179, 9), ("SandLorryModel", 181, 10), ("SandLorryModel", 183, 11), ("SandLorryModel", 185, 12), ("SandLorryModel", 187, 13), ("SandLorryModel", 192, 0), ("SandLorryModel", 194, 1), ("SandLorryModel", 196, 2), ("SandLorryModel", 198, 3), ("SandLorryModel", 200, 4), ("SandLorryModel", 202, 5), ("SandLorryModel", 204, 6), ("SandLorryModel", 206, 7)]
theorem st_P_116 : (("SandLorry$Tape", 116, 0) : String × Nat × Nat) ∈ strT := List.mem_of_getElem? (i := 0) (by decide +kernel)
theorem st_P_118 : (("SandLorry$Tape", 118, 1) : String × Nat × Nat) ∈ strT := List.mem_of_getElem? (i := 1) (by decide +kernel)
theorem st_P_120 : (("SandLorry$Tape", 120, 2) : String × Nat × Nat) ∈ strT := List.mem_of_getElem? (i := 2) (by decide +kernel)
theorem st_P_122 : (("SandLorry$Tape", 122, 3) : String × Nat × Nat) ∈ strT := List.mem_of_getElem? (i := 3) (by decide +kernel)
theorem st_P_124 : (("SandLorry$Tape", 124, 4) : String × Nat × Nat) ∈ strT := List.mem_of_getElem? (i := 4) (by decide +kernel)
theorem st_P_126 : (("SandLorry$Tape", 126, 5) : String × Nat × Nat) ∈ strT := List.mem_of_getElem? (i := 5) (by decide +kernel)
theorem st_P_128 : (("SandLorry$Tape", 128, 6) : String × Nat × Nat) ∈ strT := List.mem_of_getElem? (i := 6) (by decide +kernel)
theorem st_P_130 : (("SandLorry$Tape", 130, 7) : String × Nat × Nat) ∈ strT := List.mem_of_getElem? (i := 7) (by decide +kernel)
theorem st_P_132 : (("SandLorry$Tape", 132, 8) : String × Nat × Nat) ∈ strT := List.mem_of_getElem? (i := 8) (by decide +kernel)
theorem st_P_134 : (("SandLorry$Tape", 134, 9) : String × Nat × Nat) ∈ strT := List.mem_of_getElem? (i := 9) (by decide +kernel)
theorem st_P_136 : (("SandLorry$Tape", 136, 10) : String × Nat × Nat) ∈ strT := List.mem_of_getElem? (i := 10) (by decide +kernel)
theorem st_P_138 : (("SandLorry$Tape", 138, 11) : String × Nat × Nat) ∈ strT := List.mem_of_getElem? (i := 11) (by decide +kernel)
theorem st_P_140 : (("SandLorry$Tape", 140, 12) : String × Nat × Nat) ∈ strT := List.mem_of_getElem? (i := 12) (by decide +kernel)
theorem st_P_142 : (("SandLorry$Tape", 142, 13) : String × Nat × Nat) ∈ strT := List.mem_of_getElem? (i := 13) (by decide +kernel)
theorem st_M_170 : (("SandLorryModel", 170, 8) : String × Nat × Nat) ∈ strT := List.mem_of_getElem? (i := 14) (by decide +kernel)
theorem st_M_179 : (("SandLorryModel", 179, 9) : String × Nat × Nat) ∈ strT := List.mem_of_getElem? (i := 15) (by decide +kernel)
theorem st_M_181 : (("SandLorryModel", 181, 10) : String × Nat × Nat) ∈ strT := List.mem_of_getElem? (i := 16) (by decide +kernel)
theorem st_M_183 : (("SandLorryModel", 183, 11) : String × Nat × Nat) ∈ strT := List.mem_of_getElem? (i := 17) (by decide +kernel)
theorem st_M_185 : (("SandLorryModel", 185, 12) : String × Nat × Nat) ∈ strT := List.mem_of_getElem? (i := 18) (by decide +kernel)
theorem st_M_187 : (("SandLorryModel", 187, 13) : String × Nat × Nat) ∈ strT := List.mem_of_getElem? (i := 19) (by decide +kernel)
theorem st_M_192 : (("SandLorryModel", 192, 0) : String × Nat × Nat) ∈ strT := List.mem_of_getElem? (i := 20) (by decide +kernel)
theorem st_M_194 : (("SandLorryModel", 194, 1) : String × Nat × Nat) ∈ strT := List.mem_of_getElem? (i := 21) (by decide +kernel)
theorem st_M_196 : (("SandLorryModel", 196, 2) : String × Nat × Nat) ∈ strT := List.mem_of_getElem? (i := 22) (by decide +kernel)
theorem st_M_198 : (("SandLorryModel", 198, 3) : String × Nat × Nat) ∈ strT := List.mem_of_getElem? (i := 23) (by decide +kernel)
theorem st_M_200 : (("SandLorryModel", 200, 4) : String × Nat × Nat) ∈ strT := List.mem_of_getElem? (i := 24) (by decide +kernel)
theorem st_M_202 : (("SandLorryModel", 202, 5) : String × Nat × Nat) ∈ strT := List.mem_of_getElem? (i := 25) (by decide +kernel)
theorem st_M_204 : (("SandLorryModel", 204, 6) : String × Nat × Nat) ∈ strT := List.mem_of_getElem? (i := 26) (by decide +kernel)
theorem st_M_206 : (("SandLorryModel", 206, 7) : String × Nat × Nat) ∈ strT := List.mem_of_getElem? (i := 27) (by decide +kernel)
def StrF (X : xC) (sA : Nat → Nat) (U : State) : Prop := va_Z "java/lang/String" "COMPACT_STRINGS" "Z" (.int 1) (fun q => xB X ≤ q) U U.heap ∧ va_Zq "jdk/internal/util/Preconditions" "SIOOBE_FORMATTER" "Ljava/util/function/BiFunction;" (fun q => xB X ≤ q) U U.heap ∧
  (∀ j : Nat, j < 14 → ∃ v : Nat, va_O "java/lang/String" (sA j) (fun q => xB X ≤ q) U U.heap ∧ va_OF "java/lang/String" "coder" "B" (.int 0) (sA j) (fun q => xB X ≤ q) U U.heap ∧ va_OF "java/lang/String" "value" "[B" (.ref v) (sA j) (fun q => xB X ≤ q) U U.heap ∧ va_T .byte v (wn j) (fun i => .int (wc j i)) (fun q => xB X ≤ q) U U.heap) ∧
  ∀ q ∈ strT, vk_R q.1 q.2.1 (wT.getD q.2.2 "") (sA q.2.2) U
def XStr (X : xC) (sA : Nat → Nat) : Prop := ∀ U : State, xE X U → StrF X sA U
/-- the byte array of a text -/
def isV (X : xC) (sA : Nat → Nat) (j v : Nat) : Prop := ∀ U : State, xE X U → va_OF "java/lang/String" "value" "[B" (.ref v) (sA j) (fun q => xB X ≤ q) U U.heap ∧ va_T .byte v (wn j) (fun i => .int (wc j i)) (fun q => xB X ≤ q) U U.heap
def eW (sA : Nat → Nat) (q : Nat × St) : Option Value × St := (some (.ref (sA q.1)), q.2)
section STR
variable {X : xC} {k : Mth} {d pc pc' tgt : Nat} {ls : List (Option Value)} {st : List Value} {M M' : List va_E} {r : Option Value} {kc ks : Nat} {sA : Nat → Nat}
theorem ev_ldcS {idx j : Nat} (hd : dI k.2.1 pc (.ldc idx) 2 pc') (hq : XStr X sA) (hm : (k.1.cls, idx, j) ∈ strT) (kk : Sem X k d pc' ls (.ref (sA j) :: st) M r M' kc ks) : Sem X k d pc ls st M r M' kc ks := by
  intro p l e R s m args below meth c C H locs cells slots hW hS hc hs la hl
  obtain ⟨hx, hb, hr, hml, hown, hts, hlk, hnm, hbs, hR, hE, hX⟩ := id C
  obtain ⟨hd, rfl⟩ := hd
  exact va_ldcS hx hb hown ((hq s hE.2.2.2.2).2.2.2 _ hm) hd (kk p l e R s m args below meth c C H locs cells slots hW hS hc hs la hl)
theorem ev_gets {idx : Nat} {Cn n ds : String} {v : Value} (hd : dI k.2.1 pc (.getstatic idx) 3 pc') (hz : ∀ U, xE X U → va_Z Cn n ds v (fun q => xB X ≤ q) U U.heap) (hw : Cond.fieldLink k.1.cls idx Cn n ds ∈ TG) (kk : Sem X k d pc' ls (v :: st) M r M' kc ks) : Sem X k d pc ls st M r M' kc ks := by
  intro p l e R s m args below meth c C H locs cells slots hW hS hc hs la hl
  obtain ⟨hx, hb, hr, hml, hown, hts, hlk, hnm, hbs, hR, hE, hX⟩ := id C
  obtain ⟨hd, rfl⟩ := hd
  exact va_gets hx hb (hz s hE.2.2.2.2) hS hown (hts _ hw) (fun x h => h) hd (kk p l e R s m args below meth c C H locs cells slots hW hS hc hs la hl)
theorem ev_getS {idx a : Nat} {n ds : String} {v : Value} (hd : dI k.2.1 pc (.getfield idx) 3 pc') (hz : ∀ U, xE X U → va_OF "java/lang/String" n ds v a (fun q => xB X ≤ q) U U.heap) (hw : Cond.fieldLink k.1.cls idx "java/lang/String" n ds ∈ TG) (kk : Sem X k d pc' ls (v :: st) M r M' kc ks) : Sem X k d pc ls (.ref a :: st) M r M' kc ks := by
  intro p l e R s m args below meth c C H locs cells slots hW hS hc hs la hl
  obtain ⟨hx, hb, hr, hml, hown, hts, hlk, hnm, hbs, hR, hE, hX⟩ := id C
  obtain ⟨hd, rfl⟩ := hd
  exact vk_getf hx hb (hz s hE.2.2.2.2) hS hown (hts _ hw) (fun x h => h) hd (kk p l e R s m args below meth c C H locs cells slots hW hS hc hs la hl)
theorem ev_tlen {t N : Nat} {f : Nat → Value} {v : Int32} (hd : dI k.2.1 pc .arraylength 1 pc') (hz : ∀ U, xE X U → va_T .byte t N f (fun q => xB X ≤ q) U U.heap) (hv : Int32.ofNat N = v) (kk : Sem X k d pc' ls (.int v :: st) M r M' kc ks) : Sem X k d pc ls (.ref t :: st) M r M' kc ks := by
  intro p l e R s m args below meth c C H locs cells slots hW hS hc hs la hl
  obtain ⟨hx, hb, hr, hml, hown, hts, hlk, hnm, hbs, hR, hE, hX⟩ := id C
  obtain ⟨hd, rfl⟩ := hd
  exact va_tlen hx hb (hz s hE.2.2.2.2) hS hv hd (kk p l e R s m args below meth c C H locs cells slots hW hS hc hs la hl)
theorem ev_tb {t N : Nat} {f : Nat → Value} {i : Int32} {v : Value} (hd : dI k.2.1 pc .baload 1 pc') (hz : ∀ U, xE X U → va_T .byte t N f (fun q => xB X ≤ q) U U.heap) (hi : vp_in i N) (hv : f i.toNatClampNeg = v) (kk : Sem X k d pc' ls (v :: st) M r M' kc ks) : Sem X k d pc ls (.int i :: .ref t :: st) M r M' kc ks := by
  intro p l e R s m args below meth c C H locs cells slots hW hS hc hs la hl
  obtain ⟨hx, hb, hr, hml, hown, hts, hlk, hnm, hbs, hR, hE, hX⟩ := id C
  obtain ⟨hd, rfl⟩ := hd
  exact va_tb hx hb (hz s hE.2.2.2.2) hS hi hv hd (kk p l e R s m args below meth c C H locs cells slots hW hS hc hs la hl)
theorem ev_callX {k2 : Mth} {idx : Nat} {As : List Value} {r1 : Option Value} {M1 : List va_E} {k1 s1 a : Nat} (hd : dI k.2.1 pc (.invokevirtual idx) 3 pc') (hw : Cond.methodLink k.1.cls idx k2.1 ∈ TG) (hk : VirK k2 As.length) (hrec : ∀ U, xE X U → va_O k2.1.cls a (fun q => xB X ≤ q) U U.heap) (hca : ∀ v ∈ As, v.category = 1) (hst : (st.map fun v => v.category).sum ≤ 8) (h : Sem X k2 d 0 (ini k2 (.ref a :: As)) [] M r1 M1 k1 s1) (kk : Sem X k (d + 1) pc' ls (r1.toList ++ st) M1 r M' kc ks) : Sem X k (d + 1) pc ls (As.reverse ++ .ref a :: st) M r M' (k1 + kc) (s1 + ks) := by
  intro p l e R s m args below meth c C H locs cells slots hW hS hc hs la hl
  obtain ⟨hx, hb, hr, hml, hown, hts, hlk, hnm, hbs, hR, hE, hX⟩ := id C
  obtain ⟨hd, rfl⟩ := hd
  have hrv : ∃ cell : Cell, H[a]? = some cell ∧ cell.vm.isStatics = false ∧ s.vm.findClass k2.1.cls = some cell.cls := by
    obtain ⟨cell, h1, h2, h3, -⟩ := (hrec s hE.2.2.2.2).kept hS.2.1
    exact ⟨cell, h1, h2, h3⟩
  refine my_call (va_runV (As := As) (rest := st) ⟨hx, hb, hml, hown, hts⟩ (Met_of hX hk.1.1.2.2.1 (As := .ref a :: As) (cat_cons rfl hca) hk.1.2.2 h l) ⟨hk.1.1.B (d' := d) hts (hts _ hw) hR, hts _ hk.1.2.1, hts _ hk.2⟩ ⟨Pcm_blind hX, hrv, Pcm_at hX hE hW hS hbs⟩ rfl rfl hl.1.1 rfl (lv_room hst) hd ⟨by omega, by omega⟩) hS (fun H1 locs1 hW1 hS1 => ?_)
  have h2 := kk p l e R s m args below meth c C H1 locs1 (cells + k1) (slots + s1) hW1 hS1 (by omega) (by omega) la hl
  rw [Nat.add_assoc, Nat.add_assoc] at h2
  exact h2
theorem d_JS_coder_0 : dI prog_10_method_152_code 0 (.getstatic 38) 3 3 := by decide +kernel
theorem d_JS_coder_3 : dJ prog_10_method_152_code 3 (.ifCond .eq 10) 10 6 13 := by decide +kernel
theorem d_JS_coder_6 : dI prog_10_method_152_code 6 (.aload_n 0) 1 7 := by decide +kernel
theorem d_JS_coder_7 : dI prog_10_method_152_code 7 (.getfield 15) 3 10 := by decide +kernel
theorem d_JS_coder_10 : dJ prog_10_method_152_code 10 (.goto 4) 4 13 14 := by decide +kernel
theorem d_JS_coder_13 : dI prog_10_method_152_code 13 (.iconst 1) 1 14 ∧ Int32.ofInt 1 = 1 := by decide +kernel
theorem d_JS_coder_14 : decode prog_10_method_152_code 14 = .ok (.ireturn, 1) := by decide +kernel
theorem d_JS_isLatin1_0 : dI prog_10_method_154_code 0 (.getstatic 38) 3 3 := by decide +kernel
theorem d_JS_isLatin1_3 : dJ prog_10_method_154_code 3 (.ifCond .eq 14) 14 6 17 := by decide +kernel
theorem d_JS_isLatin1_6 : dI prog_10_method_154_code 6 (.aload_n 0) 1 7 := by decide +kernel
theorem d_JS_isLatin1_7 : dI prog_10_method_154_code 7 (.getfield 15) 3 10 := by decide +kernel
theorem d_JS_isLatin1_10 : dJ prog_10_method_154_code 10 (.ifCond .ne 7) 7 13 17 := by decide +kernel
theorem d_JS_isLatin1_13 : dI prog_10_method_154_code 13 (.iconst 1) 1 14 ∧ Int32.ofInt 1 = 1 := by decide +kernel
theorem d_JS_isLatin1_14 : dJ prog_10_method_154_code 14 (.goto 4) 4 17 18 := by decide +kernel
theorem d_JS_isLatin1_17 : dI prog_10_method_154_code 17 (.iconst 0) 1 18 ∧ Int32.ofInt 0 = 0 := by decide +kernel
theorem d_JS_isLatin1_18 : decode prog_10_method_154_code 18 = .ok (.ireturn, 1) := by decide +kernel
theorem d_JS_length_0 : dI prog_10_method_54_code 0 (.aload_n 0) 1 1 := by decide +kernel
theorem d_JS_length_1 : dI prog_10_method_54_code 1 (.getfield 9) 3 4 := by decide +kernel
theorem d_JS_length_4 : dI prog_10_method_54_code 4 .arraylength 1 5 := by decide +kernel
theorem d_JS_length_5 : dI prog_10_method_54_code 5 (.aload_n 0) 1 6 := by decide +kernel
theorem d_JS_length_6 : dI prog_10_method_54_code 6 (.invokevirtual 335) 3 9 := by decide +kernel
theorem d_JS_length_9 : dI prog_10_method_54_code 9 .ishr 1 10 := by decide +kernel
theorem d_JS_length_10 : decode prog_10_method_54_code 10 = .ok (.ireturn, 1) := by decide +kernel
theorem d_JP_checkIndex_0 : dI prog_15_method_11_code 0 (.iload_n 0) 1 1 := by decide +kernel
theorem d_JP_checkIndex_1 : dJ prog_15_method_11_code 1 (.ifCond .lt 8) 8 4 9 := by decide +kernel
theorem d_JP_checkIndex_4 : dI prog_15_method_11_code 4 (.iload_n 0) 1 5 := by decide +kernel
theorem d_JP_checkIndex_5 : dI prog_15_method_11_code 5 (.iload_n 1) 1 6 := by decide +kernel
theorem d_JP_checkIndex_6 : dJ prog_15_method_11_code 6 (.if_icmp .lt 10) 10 9 16 := by decide +kernel
theorem d_JP_checkIndex_16 : dI prog_15_method_11_code 16 (.iload_n 0) 1 17 := by decide +kernel
theorem d_JP_checkIndex_17 : decode prog_15_method_11_code 17 = .ok (.ireturn, 1) := by decide +kernel
theorem d_JS_checkIndex_0 : dI prog_10_method_155_code 0 (.iload_n 0) 1 1 := by decide +kernel
theorem d_JS_checkIndex_1 : dI prog_10_method_155_code 1 (.iload_n 1) 1 2 := by decide +kernel
theorem d_JS_checkIndex_2 : dI prog_10_method_155_code 2 (.getstatic 1053) 3 5 := by decide +kernel
theorem d_JS_checkIndex_5 : dI prog_10_method_155_code 5 (.invokestatic 1059) 3 8 := by decide +kernel
theorem d_JS_checkIndex_8 : dI prog_10_method_155_code 8 .pop 1 9 := by decide +kernel
theorem d_JS_checkIndex_9 : decode prog_10_method_155_code 9 = .ok (.return_, 1) := by decide +kernel
theorem d_JL_charAt_0 : dI prog_11_method_2_code 0 (.iload_n 1) 1 1 := by decide +kernel
theorem d_JL_charAt_1 : dI prog_11_method_2_code 1 (.aload_n 0) 1 2 := by decide +kernel
theorem d_JL_charAt_2 : dI prog_11_method_2_code 2 .arraylength 1 3 := by decide +kernel
theorem d_JL_charAt_3 : dI prog_11_method_2_code 3 (.invokestatic 9) 3 6 := by decide +kernel
theorem d_JL_charAt_6 : dI prog_11_method_2_code 6 (.aload_n 0) 1 7 := by decide +kernel
theorem d_JL_charAt_7 : dI prog_11_method_2_code 7 (.iload_n 1) 1 8 := by decide +kernel
theorem d_JL_charAt_8 : dI prog_11_method_2_code 8 .baload 1 9 := by decide +kernel
theorem d_JL_charAt_9 : dI prog_11_method_2_code 9 (.sipush 255) 3 12 ∧ (Int16.ofInt 255).toInt32 = 255 := by decide +kernel
theorem d_JL_charAt_12 : dI prog_11_method_2_code 12 .iand 1 13 := by decide +kernel
theorem d_JL_charAt_13 : dI prog_11_method_2_code 13 .i2c 1 14 := by decide +kernel
theorem d_JL_charAt_14 : decode prog_11_method_2_code 14 = .ok (.ireturn, 1) := by decide +kernel
theorem d_JS_charAt_0 : dI prog_10_method_56_code 0 (.aload_n 0) 1 1 := by decide +kernel
theorem d_JS_charAt_1 : dI prog_10_method_56_code 1 (.invokevirtual 492) 3 4 := by decide +kernel
theorem d_JS_charAt_4 : dJ prog_10_method_56_code 4 (.ifCond .eq 12) 12 7 16 := by decide +kernel
theorem d_JS_charAt_7 : dI prog_10_method_56_code 7 (.aload_n 0) 1 8 := by decide +kernel
theorem d_JS_charAt_8 : dI prog_10_method_56_code 8 (.getfield 9) 3 11 := by decide +kernel
theorem d_JS_charAt_11 : dI prog_10_method_56_code 11 (.iload_n 1) 1 12 := by decide +kernel
theorem d_JS_charAt_12 : dI prog_10_method_56_code 12 (.invokestatic 495) 3 15 := by decide +kernel
theorem d_JS_charAt_15 : decode prog_10_method_56_code 15 = .ok (.ireturn, 1) := by decide +kernel
theorem w_JS_coder {j : Nat} (hj : j < 14) (hs : XStr X sA) : Sem X k_JS_coder d 0 [some (.ref (sA j))] [] M (some (.int 0)) M 0 0 := by
  refine ev_gets d_JS_coder_0 (fun U h => (hs U h).1) (TG_at 429 (by decide +kernel) (by decide +kernel)) ?_
  refine ev_if_eq d_JS_coder_3 (fun h => absurd h (by decide)) (fun _ => ?_)
  refine ev_aload_n d_JS_coder_6 rfl ?_
  refine ev_getS d_JS_coder_7 (fun U h => ((hs U h).2.2.1 j hj).choose_spec.2.1) (TG_at 1045 (by decide +kernel) (by decide +kernel)) ?_
  refine ev_goto d_JS_coder_10 ?_
  exact ev_ireturn d_JS_coder_14 rfl rfl
theorem w_JS_isLatin1 {j : Nat} (hj : j < 14) (hs : XStr X sA) : Sem X k_JS_isLatin1 d 0 [some (.ref (sA j))] [] M (some (.int 1)) M 0 0 := by
  refine ev_gets d_JS_isLatin1_0 (fun U h => (hs U h).1) (TG_at 429 (by decide +kernel) (by decide +kernel)) ?_
  refine ev_if_eq d_JS_isLatin1_3 (fun h => absurd h (by decide)) (fun _ => ?_)
  refine ev_aload_n d_JS_isLatin1_6 rfl ?_
  refine ev_getS d_JS_isLatin1_7 (fun U h => ((hs U h).2.2.1 j hj).choose_spec.2.1) (TG_at 1045 (by decide +kernel) (by decide +kernel)) ?_
  refine ev_if_ne d_JS_isLatin1_10 (fun h => absurd rfl h) (fun _ => ?_)
  refine ev_iconst d_JS_isLatin1_13 ?_
  refine ev_goto d_JS_isLatin1_14 ?_
  exact ev_ireturn d_JS_isLatin1_18 rfl rfl
theorem wl_shr : ∀ j : Fin 14, wl j.val >>> ((0 : Int32) &&& 31) = wl j.val := by decide +kernel
/-- all states that hold the text's facts hold them at one address of its bytes: it lies below the base and never changes; so it is taken as given -/
def XVal (X : xC) (sA sV : Nat → Nat) : Prop := ∀ j : Nat, j < 14 → isV X sA j (sV j)
variable {sV : Nat → Nat}
theorem w_JS_length {j : Nat} (hj : j < 14) (hs : XStr X sA) (hv : XVal X sA sV) : Sem X k_JS_length (d + 1) 0 [some (.ref (sA j))] [] M (some (.int (wl j))) M 0 0 := by
  refine ev_aload_n d_JS_length_0 rfl ?_
  refine ev_getS d_JS_length_1 (fun U h => (hv j hj U h).1) (TG_at 1044 (by decide +kernel) (by decide +kernel)) ?_
  refine ev_tlen d_JS_length_4 (fun U h => (hv j hj U h).2) (v := wl j) rfl ?_
  refine ev_aload_n d_JS_length_5 rfl ?_
  refine ev_callX (As := []) (k1 := 0) (s1 := 0) (kc := 0) (ks := 0) d_JS_length_6 ml_JS_335 vk_JS_coder (fun U h => ((hs U h).2.2.1 j hj).choose_spec.1) (fun v hv => by cases hv) (Nat.le_of_ble_eq_true rfl) (w_JS_coder hj hs) ?_
  refine ev_ishr d_JS_length_9 ?_
  have e := wl_shr ⟨j, hj⟩
  dsimp only at e
  rw [e]
  exact ev_ireturn d_JS_length_10 rfl rfl
theorem w_JP_checkIndex {i n : Int32} {v : Value} (h0 : ¬ i < 0) (h1 : i < n) : Sem X k_JP_checkIndex d 0 [some (.int i), some (.int n), some v] [] M (some (.int i)) M 0 0 := by
  refine ev_iload_n d_JP_checkIndex_0 rfl ?_
  refine ev_if_lt d_JP_checkIndex_1 (fun h => absurd h h0) (fun _ => ?_)
  refine ev_iload_n d_JP_checkIndex_4 rfl ?_
  refine ev_iload_n d_JP_checkIndex_5 rfl ?_
  refine ev_icmp_lt d_JP_checkIndex_6 (fun _ => ?_) (fun h => absurd h1 h)
  refine ev_iload_n d_JP_checkIndex_16 rfl ?_
  exact ev_ireturn d_JP_checkIndex_17 rfl rfl
theorem w_JS_checkIndex {i n : Int32} (hs : XStr X sA) (hz : (∀ U, xE X U → va_Z "jdk/internal/util/Preconditions" "SIOOBE_FORMATTER" "Ljava/util/function/BiFunction;" .null (fun q => xB X ≤ q) U U.heap) ∨ ∃ t : Nat, ∀ U, xE X U → va_Z "jdk/internal/util/Preconditions" "SIOOBE_FORMATTER" "Ljava/util/function/BiFunction;" (.ref t) (fun q => xB X ≤ q) U U.heap) (h0 : ¬ i < 0) (h1 : i < n) : Sem X k_JS_checkIndex (d + 1) 0 [some (.int i), some (.int n)] [] M none M 0 0 := by
  refine ev_iload_n d_JS_checkIndex_0 rfl ?_
  refine ev_iload_n d_JS_checkIndex_1 rfl ?_
  rcases hz with hz | ⟨t, hz⟩
  · refine ev_gets d_JS_checkIndex_2 hz (TG_at 445 (by decide +kernel) (by decide +kernel)) ?_
    refine ev_callS (As := [.int i, .int n, .null]) (k1 := 0) (s1 := 0) (kc := 0) (ks := 0) d_JS_checkIndex_5 ml_JS_1059 sk_JP_checkIndex (cat_cons rfl (cat_cons rfl (cat_cons rfl (fun v hv => by cases hv)))) (Nat.le_of_ble_eq_true rfl) (w_JP_checkIndex (v := .null) h0 h1) ?_
    refine ev_pop d_JS_checkIndex_8 rfl ?_
    exact ev_return d_JS_checkIndex_9 rfl
  · refine ev_gets d_JS_checkIndex_2 hz (TG_at 445 (by decide +kernel) (by decide +kernel)) ?_
    refine ev_callS (As := [.int i, .int n, .ref t]) (k1 := 0) (s1 := 0) (kc := 0) (ks := 0) d_JS_checkIndex_5 ml_JS_1059 sk_JP_checkIndex (cat_cons rfl (cat_cons rfl (cat_cons rfl (fun v hv => by cases hv)))) (Nat.le_of_ble_eq_true rfl) (w_JP_checkIndex (v := .ref t) h0 h1) ?_
    refine ev_pop d_JS_checkIndex_8 rfl ?_
    exact ev_return d_JS_checkIndex_9 rfl
def XFmt (X : xC) : Prop := (∀ U, xE X U → va_Z "jdk/internal/util/Preconditions" "SIOOBE_FORMATTER" "Ljava/util/function/BiFunction;" .null (fun q => xB X ≤ q) U U.heap) ∨ ∃ t : Nat, ∀ U, xE X U → va_Z "jdk/internal/util/Preconditions" "SIOOBE_FORMATTER" "Ljava/util/function/BiFunction;" (.ref t) (fun q => xB X ≤ q) U U.heap
theorem wn_lt : ∀ j : Fin 14, wn j.val < 12 := by decide +kernel
theorem wc_ok : ∀ j : Fin 14, ∀ i : Fin 12, ((wc j.val i.val &&& 255).toUInt32 % 65536).toInt32 = wc j.val i.val ∧ narrow .char (.int (wc j.val i.val)) = .int (wc j.val i.val) := by decide +kernel
theorem in_lt {i : Int32} {n : Nat} (h : inb i n = true) (hn : n < 2147483648) : ¬ i < 0 ∧ i < Int32.ofNat n := by
  have h1 := inb_in h
  refine ⟨fun z => h1 (Or.inl z), ?_⟩
  obtain ⟨j, hj, rfl⟩ := vp_in_of h1 (by omega)
  exact nI_lt hj (by omega)
theorem w_JL_charAt {j : Nat} {i : Int32} (hj : j < 14) (hs : XStr X sA) (hv : XVal X sA sV) (hz : XFmt X) (hi : inb i (wn j) = true) : Sem X k_JL_charAt (d + 2) 0 [some (.ref (sV j)), some (.int i)] [] M (some (.int (wc j i.toNatClampNeg))) M 0 0 := by
  have hn := wn_lt ⟨j, hj⟩
  dsimp only at hn
  have hil := inb_lt hi
  have hio := in_lt hi (by omega)
  have e := wc_ok ⟨j, hj⟩ ⟨i.toNatClampNeg, by omega⟩
  dsimp only at e
  refine ev_iload_n d_JL_charAt_0 rfl ?_
  refine ev_aload_n d_JL_charAt_1 rfl ?_
  refine ev_tlen d_JL_charAt_2 (fun U h => (hv j hj U h).2) rfl ?_
  refine ev_callS (As := [.int i, .int (Int32.ofNat (wn j))]) (k1 := 0) (s1 := 0) (kc := 0) (ks := 0) d_JL_charAt_3 ml_JL_9 sk_JS_checkIndex (cat_cons rfl (cat_cons rfl (fun v hv => by cases hv))) (Nat.le_of_ble_eq_true rfl) (w_JS_checkIndex hs hz hio.1 hio.2) ?_
  refine ev_aload_n d_JL_charAt_6 rfl ?_
  refine ev_iload_n d_JL_charAt_7 rfl ?_
  refine ev_tb d_JL_charAt_8 (fun U h => (hv j hj U h).2) (inb_in hi) rfl ?_
  refine ev_sipush d_JL_charAt_9 ?_
  refine ev_iand d_JL_charAt_12 ?_
  refine ev_i2c d_JL_charAt_13 ?_
  rw [e.1]
  exact ev_ireturn d_JL_charAt_14 rfl e.2
theorem w_JS_charAt {j : Nat} {i : Int32} (hj : j < 14) (hs : XStr X sA) (hv : XVal X sA sV) (hz : XFmt X) (hi : inb i (wn j) = true) : Sem X k_JS_charAt (d + 3) 0 [some (.ref (sA j)), some (.int i)] [] M (some (.int (wc j i.toNatClampNeg))) M 0 0 := by
  have hn := wn_lt ⟨j, hj⟩
  dsimp only at hn
  have hil := inb_lt hi
  have e := wc_ok ⟨j, hj⟩ ⟨i.toNatClampNeg, by omega⟩
  dsimp only at e
  refine ev_aload_n d_JS_charAt_0 rfl ?_
  refine ev_callX (As := []) (k1 := 0) (s1 := 0) (kc := 0) (ks := 0) d_JS_charAt_1 ml_JS_492 vk_JS_isLatin1 (fun U h => ((hs U h).2.2.1 j hj).choose_spec.1) (fun v hv => by cases hv) (Nat.le_of_ble_eq_true rfl) (w_JS_isLatin1 hj hs) ?_
  refine ev_if_eq d_JS_charAt_4 (fun h => absurd h (by decide)) (fun _ => ?_)
  refine ev_aload_n d_JS_charAt_7 rfl ?_
  refine ev_getS d_JS_charAt_8 (fun U h => (hv j hj U h).1) (TG_at 1044 (by decide +kernel) (by decide +kernel)) ?_
  refine ev_iload_n d_JS_charAt_11 rfl ?_
  refine ev_callS (As := [.ref (sV j), .int i]) (k1 := 0) (s1 := 0) (kc := 0) (ks := 0) d_JS_charAt_12 ml_JS_495 sk_JL_charAt (cat_cons rfl (cat_cons rfl (fun v hv => by cases hv))) (Nat.le_of_ble_eq_true rfl) (w_JL_charAt hj hs hv hz hi) ?_
  exact ev_ireturn d_JS_charAt_15 rfl e.2
end STR
/-- all that is given of the texts -/
def XTxt (X : xC) (sA : Nat → Nat) : Prop := XStr X sA ∧ (∃ sV, XVal X sA sV) ∧ XFmt X
section GSTR
variable {α : Type} {emb : α → Option Value × St} {X : xC} {k : Mth} {d pc pc' tgt : Nat} {ls : List (Option Value)} {st : List Value} {S : St} {f : Option α} {sA : Nat → Nat}
theorem g_ldcS {idx j : Nat} (hd : dI k.2.1 pc (.ldc idx) 2 pc') (hs : XTxt X sA) (hm : (k.1.cls, idx, j) ∈ strT) (kk : SemG emb X k d pc' ls (.ref (sA j) :: st) S f) : SemG emb X k d pc ls st S f := fun a ha => ev_ldcS hd hs.1 hm (kk a ha)
theorem g_strlen {idx j : Nat} (hd : dI k.2.1 pc (.invokevirtual idx) 3 pc') (hw : Cond.methodLink k.1.cls idx k_JS_length.1 ∈ TG) (hs : XTxt X sA) (hst : (st.map fun v => v.category).sum ≤ 8) (hj : j < 14) (kk : SemG emb X k (d + 4) pc' ls (.int (wl j) :: st) S f) : SemG emb X k (d + 4) pc ls (.ref (sA j) :: st) S f := by
  obtain ⟨h1, ⟨sV, h2⟩, h3⟩ := hs
  intro a ha
  have h := ev_callX (As := []) (k1 := 0) (s1 := 0) (kc := 0) (ks := 0) (d := d + 3) hd hw vk_JS_length (fun U h => ((h1 U h).2.2.1 j hj).choose_spec.1) (fun v hv => by cases hv) hst (w_JS_length (d := d + 2) hj h1 h2) (kk a ha)
  exact h
theorem g_charAt {idx j : Nat} {i : Int32} (hd : dI k.2.1 pc (.invokevirtual idx) 3 pc') (hw : Cond.methodLink k.1.cls idx k_JS_charAt.1 ∈ TG) (hs : XTxt X sA) (hst : (st.map fun v => v.category).sum ≤ 8) (hj : j < 14) (hi : inb i (wn j) = true) (kk : SemG emb X k (d + 4) pc' ls (.int (wc j i.toNatClampNeg) :: st) S f) : SemG emb X k (d + 4) pc ls (.int i :: .ref (sA j) :: st) S f := by
  obtain ⟨h1, ⟨sV, h2⟩, h3⟩ := hs
  intro a ha
  have h := ev_callX (As := [.int i]) (k1 := 0) (s1 := 0) (kc := 0) (ks := 0) (d := d + 3) hd hw vk_JS_charAt (fun U h => ((h1 U h).2.2.1 j hj).choose_spec.1) (cat_cons rfl (fun v hv => by cases hv)) hst (w_JS_charAt (d := d) hj h1 h2 h3 hi) (kk a ha)
  exact h
theorem g_wreturn {f : Option (Nat × St)} {j : Nat} {nm : String} (hd : decode k.2.1 pc = .ok (.areturn, 1)) (ht : k.2.2.2 = some (.object nm)) (hf : f = some (j, S)) : SemG (eW sA) X k d pc ls [.ref (sA j)] S f := by
  subst hf
  intro a h
  cases h
  exact ev_areturn hd ht
theorem g_callS1W {a1 : Value} {k2 : Mth} {idx : Nat} {g : Option (Nat × St)} {ff : (Nat × St) → Option α} (hd : dI k.2.1 pc (.invokestatic idx) 3 pc') (hw : Cond.methodLink k.1.cls idx k2.1 ∈ TG) (hk : StaK k2 1) (e1 : a1.category = 1) (hst : (st.map fun v => v.category).sum ≤ 8) (h : SemG (eW sA) X k2 d 0 (ini k2 [a1]) [] S g) (kk : ∀ q, SemG emb X k (d + 1) pc' ls (.ref (sA q.1) :: st) q.2 (ff q)) : SemG emb X k (d + 1) pc ls (a1 :: st) S (g.bind ff) := by
  intro a ha
  obtain ⟨q, hq, ha⟩ := Option.bind_eq_some_iff.mp ha
  exact ev_callS (As := [a1]) hd hw hk (cat_cons e1 (fun v hv => by cases hv)) hst (h q hq) (kk q a ha)
end GSTR
