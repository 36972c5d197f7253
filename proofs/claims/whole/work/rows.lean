section
-- ===== PART A: goes FIRST, ahead of the names: the tables' words, and 'selects' of the private methods out of them =====
/-- a private method of a class that the tables say can be made, by its rows of tables_1 -/
def lw_okq (q : MethodName × Nat) : Prop := (q.1.cls ≠ "java/lang/invoke/MethodHandle" ∧ q.1.cls ≠ "java/lang/invoke/VarHandle") ∧ Cond.instantiable q.1.cls q.2 ∈ tables_1 ∧ Cond.privateMethod q.1 ∈ tables_1 ∧ Cond.instanceMethod q.1 ∈ tables_1
theorem lw_p0 : lw_okq (⟨"SandLorry", "finding", "(I)I"⟩, 10) := ⟨⟨by decide +kernel, by decide +kernel⟩, List.mem_of_getElem? (i := 16) (by decide +kernel), List.mem_of_getElem? (i := 196) (by decide +kernel), List.mem_of_getElem? (i := 197) (by decide +kernel)⟩
theorem lw_p1 : lw_okq (⟨"SandLorry$Lorry", "drive", "(I)V"⟩, 2) := ⟨⟨by decide +kernel, by decide +kernel⟩, List.mem_of_getElem? (i := 30) (by decide +kernel), List.mem_of_getElem? (i := 308) (by decide +kernel), List.mem_of_getElem? (i := 309) (by decide +kernel)⟩
theorem lw_p2 : lw_okq (⟨"SandLorry$Lorry", "push", "(III)Z"⟩, 2) := ⟨⟨by decide +kernel, by decide +kernel⟩, List.mem_of_getElem? (i := 30) (by decide +kernel), List.mem_of_getElem? (i := 312) (by decide +kernel), List.mem_of_getElem? (i := 313) (by decide +kernel)⟩
theorem lw_p3 : lw_okq (⟨"SandLorry", "timesTillOut", "(II)I"⟩, 10) := ⟨⟨by decide +kernel, by decide +kernel⟩, List.mem_of_getElem? (i := 16) (by decide +kernel), List.mem_of_getElem? (i := 341) (by decide +kernel), List.mem_of_getElem? (i := 342) (by decide +kernel)⟩
theorem lw_p4 : lw_okq (⟨"SandLorry$Tape", "step", "()V"⟩, 6) := ⟨⟨by decide +kernel, by decide +kernel⟩, List.mem_of_getElem? (i := 112) (by decide +kernel), List.mem_of_getElem? (i := 379) (by decide +kernel), List.mem_of_getElem? (i := 380) (by decide +kernel)⟩
theorem lw_p5 : lw_okq (⟨"SandLorry$Tape", "endOfRun", "(III)I"⟩, 6) := ⟨⟨by decide +kernel, by decide +kernel⟩, List.mem_of_getElem? (i := 112) (by decide +kernel), List.mem_of_getElem? (i := 383) (by decide +kernel), List.mem_of_getElem? (i := 384) (by decide +kernel)⟩
theorem lw_p6 : lw_okq (⟨"SandLorry$Tape", "numberRead", "()I"⟩, 6) := ⟨⟨by decide +kernel, by decide +kernel⟩, List.mem_of_getElem? (i := 112) (by decide +kernel), List.mem_of_getElem? (i := 388) (by decide +kernel), List.mem_of_getElem? (i := 389) (by decide +kernel)⟩
theorem lw_p7 : lw_okq (⟨"SandLorry$Tape", "readItem", "(LSandLorry$Scene;)Z"⟩, 6) := ⟨⟨by decide +kernel, by decide +kernel⟩, List.mem_of_getElem? (i := 112) (by decide +kernel), List.mem_of_getElem? (i := 393) (by decide +kernel), List.mem_of_getElem? (i := 394) (by decide +kernel)⟩
theorem lw_p8 : lw_okq (⟨"SandLorry$Tape", "wordRead", "()I"⟩, 6) := ⟨⟨by decide +kernel, by decide +kernel⟩, List.mem_of_getElem? (i := 112) (by decide +kernel), List.mem_of_getElem? (i := 397) (by decide +kernel), List.mem_of_getElem? (i := 398) (by decide +kernel)⟩
theorem lw_p9 : lw_okq (⟨"SandLorry$Tape", "spells", "(Ljava/lang/String;)Z"⟩, 6) := ⟨⟨by decide +kernel, by decide +kernel⟩, List.mem_of_getElem? (i := 112) (by decide +kernel), List.mem_of_getElem? (i := 418) (by decide +kernel), List.mem_of_getElem? (i := 419) (by decide +kernel)⟩
theorem lw_p10 : lw_okq (⟨"SandLorry$Tape", "readEfforts", "(LSandLorry$Scene;I)Z"⟩, 6) := ⟨⟨by decide +kernel, by decide +kernel⟩, List.mem_of_getElem? (i := 112) (by decide +kernel), List.mem_of_getElem? (i := 470) (by decide +kernel), List.mem_of_getElem? (i := 471) (by decide +kernel)⟩
theorem lw_p11 : lw_okq (⟨"SandLorry$Tape", "readSand", "(LSandLorry$Scene;)Z"⟩, 6) := ⟨⟨by decide +kernel, by decide +kernel⟩, List.mem_of_getElem? (i := 112) (by decide +kernel), List.mem_of_getElem? (i := 482) (by decide +kernel), List.mem_of_getElem? (i := 483) (by decide +kernel)⟩
theorem lw_p12 : lw_okq (⟨"SandLorry$Tape", "readNumber", "(LSandLorry$Scene;I)Z"⟩, 6) := ⟨⟨by decide +kernel, by decide +kernel⟩, List.mem_of_getElem? (i := 112) (by decide +kernel), List.mem_of_getElem? (i := 487) (by decide +kernel), List.mem_of_getElem? (i := 488) (by decide +kernel)⟩
theorem lw_p13 : lw_okq (⟨"SandLorry$Search", "weigh", "(LSandLorry$Lorry;I)V"⟩, 5) := ⟨⟨by decide +kernel, by decide +kernel⟩, List.mem_of_getElem? (i := 83) (by decide +kernel), List.mem_of_getElem? (i := 527) (by decide +kernel), List.mem_of_getElem? (i := 528) (by decide +kernel)⟩
theorem lw_p14 : lw_okq (⟨"SandLorryModel", "finding", "(I)I"⟩, 16) := ⟨⟨by decide +kernel, by decide +kernel⟩, List.mem_of_getElem? (i := 641) (by decide +kernel), List.mem_of_getElem? (i := 706) (by decide +kernel), List.mem_of_getElem? (i := 707) (by decide +kernel)⟩
theorem lw_p15 : lw_okq (⟨"SandLorryModel", "grip", "(I)I"⟩, 16) := ⟨⟨by decide +kernel, by decide +kernel⟩, List.mem_of_getElem? (i := 641) (by decide +kernel), List.mem_of_getElem? (i := 715) (by decide +kernel), List.mem_of_getElem? (i := 716) (by decide +kernel)⟩
def lw_privs_1 : List (MethodName × Nat) := [(⟨"SandLorry", "finding", "(I)I"⟩, 10), (⟨"SandLorry$Lorry", "drive", "(I)V"⟩, 2), (⟨"SandLorry$Lorry", "push", "(III)Z"⟩, 2), (⟨"SandLorry", "timesTillOut", "(II)I"⟩, 10), (⟨"SandLorry$Tape", "step", "()V"⟩, 6), (⟨"SandLorry$Tape", "endOfRun", "(III)I"⟩, 6), (⟨"SandLorry$Tape", "numberRead", "()I"⟩, 6), (⟨"SandLorry$Tape", "readItem", "(LSandLorry$Scene;)Z"⟩, 6), (⟨"SandLorry$Tape", "wordRead", "()I"⟩, 6), (⟨"SandLorry$Tape", "spells", "(Ljava/lang/String;)Z"⟩, 6), (⟨"SandLorry$Tape", "readEfforts", "(LSandLorry$Scene;I)Z"⟩, 6), (⟨"SandLorry$Tape", "readSand", "(LSandLorry$Scene;)Z"⟩, 6), (⟨"SandLorry$Tape", "readNumber", "(LSandLorry$Scene;I)Z"⟩, 6), (⟨"SandLorry$Search", "weigh", "(LSandLorry$Lorry;I)V"⟩, 5), (⟨"SandLorryModel", "finding", "(I)I"⟩, 16), (⟨"SandLorryModel", "grip", "(I)I"⟩, 16)]
theorem lw_r1 : ∀ q ∈ lw_privs_1, lw_okq q := List.forall_mem_cons.mpr ⟨lw_p0, List.forall_mem_cons.mpr ⟨lw_p1, List.forall_mem_cons.mpr ⟨lw_p2, List.forall_mem_cons.mpr ⟨lw_p3, List.forall_mem_cons.mpr ⟨lw_p4, List.forall_mem_cons.mpr ⟨lw_p5, List.forall_mem_cons.mpr ⟨lw_p6, List.forall_mem_cons.mpr ⟨lw_p7, List.forall_mem_cons.mpr ⟨lw_p8, List.forall_mem_cons.mpr ⟨lw_p9, List.forall_mem_cons.mpr ⟨lw_p10, List.forall_mem_cons.mpr ⟨lw_p11, List.forall_mem_cons.mpr ⟨lw_p12, List.forall_mem_cons.mpr ⟨lw_p13, List.forall_mem_cons.mpr ⟨lw_p14, List.forall_mem_cons.mpr ⟨lw_p15, fun _ h => absurd h List.not_mem_nil⟩⟩⟩⟩⟩⟩⟩⟩⟩⟩⟩⟩⟩⟩⟩⟩
theorem lw_p16 : lw_okq (⟨"SandLorryModel", "gripOf", "(II)I"⟩, 16) := ⟨⟨by decide +kernel, by decide +kernel⟩, List.mem_of_getElem? (i := 641) (by decide +kernel), List.mem_of_getElem? (i := 719) (by decide +kernel), List.mem_of_getElem? (i := 720) (by decide +kernel)⟩
theorem lw_p17 : lw_okq (⟨"SandLorryModel", "hour", "()I"⟩, 16) := ⟨⟨by decide +kernel, by decide +kernel⟩, List.mem_of_getElem? (i := 641) (by decide +kernel), List.mem_of_getElem? (i := 723) (by decide +kernel), List.mem_of_getElem? (i := 724) (by decide +kernel)⟩
theorem lw_p18 : lw_okq (⟨"SandLorryModel", "heat", "()I"⟩, 16) := ⟨⟨by decide +kernel, by decide +kernel⟩, List.mem_of_getElem? (i := 641) (by decide +kernel), List.mem_of_getElem? (i := 741) (by decide +kernel), List.mem_of_getElem? (i := 742) (by decide +kernel)⟩
theorem lw_p19 : lw_okq (⟨"SandLorryModel", "weight", "()I"⟩, 16) := ⟨⟨by decide +kernel, by decide +kernel⟩, List.mem_of_getElem? (i := 641) (by decide +kernel), List.mem_of_getElem? (i := 745) (by decide +kernel), List.mem_of_getElem? (i := 746) (by decide +kernel)⟩
theorem lw_p20 : lw_okq (⟨"SandLorryModel", "isOut", "()Z"⟩, 16) := ⟨⟨by decide +kernel, by decide +kernel⟩, List.mem_of_getElem? (i := 641) (by decide +kernel), List.mem_of_getElem? (i := 749) (by decide +kernel), List.mem_of_getElem? (i := 750) (by decide +kernel)⟩
theorem lw_p21 : lw_okq (⟨"SandLorryModel", "draw", "()I"⟩, 16) := ⟨⟨by decide +kernel, by decide +kernel⟩, List.mem_of_getElem? (i := 641) (by decide +kernel), List.mem_of_getElem? (i := 761) (by decide +kernel), List.mem_of_getElem? (i := 762) (by decide +kernel)⟩
theorem lw_p22 : lw_okq (⟨"SandLorryModel", "allFirm", "()I"⟩, 16) := ⟨⟨by decide +kernel, by decide +kernel⟩, List.mem_of_getElem? (i := 641) (by decide +kernel), List.mem_of_getElem? (i := 766) (by decide +kernel), List.mem_of_getElem? (i := 767) (by decide +kernel)⟩
theorem lw_p23 : lw_okq (⟨"SandLorryModel", "minutesOf", "(I)I"⟩, 16) := ⟨⟨by decide +kernel, by decide +kernel⟩, List.mem_of_getElem? (i := 641) (by decide +kernel), List.mem_of_getElem? (i := 784) (by decide +kernel), List.mem_of_getElem? (i := 785) (by decide +kernel)⟩
theorem lw_p24 : lw_okq (⟨"SandLorryModel", "drinks", "(I)I"⟩, 16) := ⟨⟨by decide +kernel, by decide +kernel⟩, List.mem_of_getElem? (i := 641) (by decide +kernel), List.mem_of_getElem? (i := 791) (by decide +kernel), List.mem_of_getElem? (i := 792) (by decide +kernel)⟩
theorem lw_p25 : lw_okq (⟨"SandLorryModel", "canDo", "(I)Z"⟩, 16) := ⟨⟨by decide +kernel, by decide +kernel⟩, List.mem_of_getElem? (i := 641) (by decide +kernel), List.mem_of_getElem? (i := 799) (by decide +kernel), List.mem_of_getElem? (i := 800) (by decide +kernel)⟩
theorem lw_p26 : lw_okq (⟨"SandLorryModel", "does", "(I)V"⟩, 16) := ⟨⟨by decide +kernel, by decide +kernel⟩, List.mem_of_getElem? (i := 641) (by decide +kernel), List.mem_of_getElem? (i := 803) (by decide +kernel), List.mem_of_getElem? (i := 804) (by decide +kernel)⟩
theorem lw_p27 : lw_okq (⟨"SandLorryModel", "digs", "()V"⟩, 16) := ⟨⟨by decide +kernel, by decide +kernel⟩, List.mem_of_getElem? (i := 641) (by decide +kernel), List.mem_of_getElem? (i := 807) (by decide +kernel), List.mem_of_getElem? (i := 808) (by decide +kernel)⟩
theorem lw_p28 : lw_okq (⟨"SandLorryModel", "pushes", "(IIIII)V"⟩, 16) := ⟨⟨by decide +kernel, by decide +kernel⟩, List.mem_of_getElem? (i := 641) (by decide +kernel), List.mem_of_getElem? (i := 811) (by decide +kernel), List.mem_of_getElem? (i := 812) (by decide +kernel)⟩
theorem lw_p29 : lw_okq (⟨"SandLorryModel", "begin", "()V"⟩, 16) := ⟨⟨by decide +kernel, by decide +kernel⟩, List.mem_of_getElem? (i := 641) (by decide +kernel), List.mem_of_getElem? (i := 819) (by decide +kernel), List.mem_of_getElem? (i := 820) (by decide +kernel)⟩
theorem lw_p30 : lw_okq (⟨"SandLorryModel", "became", "(I)I"⟩, 16) := ⟨⟨by decide +kernel, by decide +kernel⟩, List.mem_of_getElem? (i := 641) (by decide +kernel), List.mem_of_getElem? (i := 826) (by decide +kernel), List.mem_of_getElem? (i := 827) (by decide +kernel)⟩
theorem lw_p31 : lw_okq (⟨"SandLorryModel", "layBack", "()V"⟩, 16) := ⟨⟨by decide +kernel, by decide +kernel⟩, List.mem_of_getElem? (i := 641) (by decide +kernel), List.mem_of_getElem? (i := 830) (by decide +kernel), List.mem_of_getElem? (i := 831) (by decide +kernel)⟩
def lw_privs_2 : List (MethodName × Nat) := [(⟨"SandLorryModel", "gripOf", "(II)I"⟩, 16), (⟨"SandLorryModel", "hour", "()I"⟩, 16), (⟨"SandLorryModel", "heat", "()I"⟩, 16), (⟨"SandLorryModel", "weight", "()I"⟩, 16), (⟨"SandLorryModel", "isOut", "()Z"⟩, 16), (⟨"SandLorryModel", "draw", "()I"⟩, 16), (⟨"SandLorryModel", "allFirm", "()I"⟩, 16), (⟨"SandLorryModel", "minutesOf", "(I)I"⟩, 16), (⟨"SandLorryModel", "drinks", "(I)I"⟩, 16), (⟨"SandLorryModel", "canDo", "(I)Z"⟩, 16), (⟨"SandLorryModel", "does", "(I)V"⟩, 16), (⟨"SandLorryModel", "digs", "()V"⟩, 16), (⟨"SandLorryModel", "pushes", "(IIIII)V"⟩, 16), (⟨"SandLorryModel", "begin", "()V"⟩, 16), (⟨"SandLorryModel", "became", "(I)I"⟩, 16), (⟨"SandLorryModel", "layBack", "()V"⟩, 16)]
theorem lw_r2 : ∀ q ∈ lw_privs_2, lw_okq q := List.forall_mem_cons.mpr ⟨lw_p16, List.forall_mem_cons.mpr ⟨lw_p17, List.forall_mem_cons.mpr ⟨lw_p18, List.forall_mem_cons.mpr ⟨lw_p19, List.forall_mem_cons.mpr ⟨lw_p20, List.forall_mem_cons.mpr ⟨lw_p21, List.forall_mem_cons.mpr ⟨lw_p22, List.forall_mem_cons.mpr ⟨lw_p23, List.forall_mem_cons.mpr ⟨lw_p24, List.forall_mem_cons.mpr ⟨lw_p25, List.forall_mem_cons.mpr ⟨lw_p26, List.forall_mem_cons.mpr ⟨lw_p27, List.forall_mem_cons.mpr ⟨lw_p28, List.forall_mem_cons.mpr ⟨lw_p29, List.forall_mem_cons.mpr ⟨lw_p30, List.forall_mem_cons.mpr ⟨lw_p31, fun _ h => absurd h List.not_mem_nil⟩⟩⟩⟩⟩⟩⟩⟩⟩⟩⟩⟩⟩⟩⟩⟩
theorem lw_p32 : lw_okq (⟨"SandLorryModel", "again", "(II)I"⟩, 16) := ⟨⟨by decide +kernel, by decide +kernel⟩, List.mem_of_getElem? (i := 641) (by decide +kernel), List.mem_of_getElem? (i := 838) (by decide +kernel), List.mem_of_getElem? (i := 839) (by decide +kernel)⟩
theorem lw_p33 : lw_okq (⟨"SandLorryModel", "outBy", "(II)I"⟩, 16) := ⟨⟨by decide +kernel, by decide +kernel⟩, List.mem_of_getElem? (i := 641) (by decide +kernel), List.mem_of_getElem? (i := 846) (by decide +kernel), List.mem_of_getElem? (i := 847) (by decide +kernel)⟩
theorem lw_p34 : lw_okq (⟨"SandLorryModel", "takesAll", "()Z"⟩, 16) := ⟨⟨by decide +kernel, by decide +kernel⟩, List.mem_of_getElem? (i := 641) (by decide +kernel), List.mem_of_getElem? (i := 866) (by decide +kernel), List.mem_of_getElem? (i := 867) (by decide +kernel)⟩
theorem lw_p35 : lw_okq (⟨"SandLorryModel", "next", "()V"⟩, 16) := ⟨⟨by decide +kernel, by decide +kernel⟩, List.mem_of_getElem? (i := 641) (by decide +kernel), List.mem_of_getElem? (i := 870) (by decide +kernel), List.mem_of_getElem? (i := 871) (by decide +kernel)⟩
theorem lw_p36 : lw_okq (⟨"SandLorryModel", "byteAt", "(I)I"⟩, 16) := ⟨⟨by decide +kernel, by decide +kernel⟩, List.mem_of_getElem? (i := 641) (by decide +kernel), List.mem_of_getElem? (i := 874) (by decide +kernel), List.mem_of_getElem? (i := 875) (by decide +kernel)⟩
theorem lw_p37 : lw_okq (⟨"SandLorryModel", "takesItem", "()Z"⟩, 16) := ⟨⟨by decide +kernel, by decide +kernel⟩, List.mem_of_getElem? (i := 641) (by decide +kernel), List.mem_of_getElem? (i := 878) (by decide +kernel), List.mem_of_getElem? (i := 879) (by decide +kernel)⟩
theorem lw_p38 : lw_okq (⟨"SandLorryModel", "isWord", "(Ljava/lang/String;)Z"⟩, 16) := ⟨⟨by decide +kernel, by decide +kernel⟩, List.mem_of_getElem? (i := 641) (by decide +kernel), List.mem_of_getElem? (i := 883) (by decide +kernel), List.mem_of_getElem? (i := 884) (by decide +kernel)⟩
theorem lw_p39 : lw_okq (⟨"SandLorryModel", "takesSand", "()Z"⟩, 16) := ⟨⟨by decide +kernel, by decide +kernel⟩, List.mem_of_getElem? (i := 641) (by decide +kernel), List.mem_of_getElem? (i := 889) (by decide +kernel), List.mem_of_getElem? (i := 890) (by decide +kernel)⟩
theorem lw_p40 : lw_okq (⟨"SandLorryModel", "isNumber", "(II)Z"⟩, 16) := ⟨⟨by decide +kernel, by decide +kernel⟩, List.mem_of_getElem? (i := 641) (by decide +kernel), List.mem_of_getElem? (i := 893) (by decide +kernel), List.mem_of_getElem? (i := 894) (by decide +kernel)⟩
theorem lw_p41 : lw_okq (⟨"SandLorryModel", "takesSet", "(I)Z"⟩, 16) := ⟨⟨by decide +kernel, by decide +kernel⟩, List.mem_of_getElem? (i := 641) (by decide +kernel), List.mem_of_getElem? (i := 902) (by decide +kernel), List.mem_of_getElem? (i := 903) (by decide +kernel)⟩
theorem lw_p42 : lw_okq (⟨"SandLorryModel", "takesKind", "(I)Z"⟩, 16) := ⟨⟨by decide +kernel, by decide +kernel⟩, List.mem_of_getElem? (i := 641) (by decide +kernel), List.mem_of_getElem? (i := 914) (by decide +kernel), List.mem_of_getElem? (i := 915) (by decide +kernel)⟩
theorem lw_p43 : lw_okq (⟨"SandLorryModel", "follows", "()I"⟩, 16) := ⟨⟨by decide +kernel, by decide +kernel⟩, List.mem_of_getElem? (i := 641) (by decide +kernel), List.mem_of_getElem? (i := 930) (by decide +kernel), List.mem_of_getElem? (i := 931) (by decide +kernel)⟩
theorem lw_p44 : lw_okq (⟨"SandLorryModel", "doesRow", "(II)Z"⟩, 16) := ⟨⟨by decide +kernel, by decide +kernel⟩, List.mem_of_getElem? (i := 641) (by decide +kernel), List.mem_of_getElem? (i := 942) (by decide +kernel), List.mem_of_getElem? (i := 943) (by decide +kernel)⟩
theorem lw_p45 : lw_okq (⟨"SandLorryModel", "lacks", "(I)I"⟩, 16) := ⟨⟨by decide +kernel, by decide +kernel⟩, List.mem_of_getElem? (i := 641) (by decide +kernel), List.mem_of_getElem? (i := 1008) (by decide +kernel), List.mem_of_getElem? (i := 1009) (by decide +kernel)⟩
theorem lw_p46 : lw_okq (⟨"SandLorryModel", "told", "(II)I"⟩, 16) := ⟨⟨by decide +kernel, by decide +kernel⟩, List.mem_of_getElem? (i := 641) (by decide +kernel), List.mem_of_getElem? (i := 1032) (by decide +kernel), List.mem_of_getElem? (i := 1033) (by decide +kernel)⟩
def lw_privs_3 : List (MethodName × Nat) := [(⟨"SandLorryModel", "again", "(II)I"⟩, 16), (⟨"SandLorryModel", "outBy", "(II)I"⟩, 16), (⟨"SandLorryModel", "takesAll", "()Z"⟩, 16), (⟨"SandLorryModel", "next", "()V"⟩, 16), (⟨"SandLorryModel", "byteAt", "(I)I"⟩, 16), (⟨"SandLorryModel", "takesItem", "()Z"⟩, 16), (⟨"SandLorryModel", "isWord", "(Ljava/lang/String;)Z"⟩, 16), (⟨"SandLorryModel", "takesSand", "()Z"⟩, 16), (⟨"SandLorryModel", "isNumber", "(II)Z"⟩, 16), (⟨"SandLorryModel", "takesSet", "(I)Z"⟩, 16), (⟨"SandLorryModel", "takesKind", "(I)Z"⟩, 16), (⟨"SandLorryModel", "follows", "()I"⟩, 16), (⟨"SandLorryModel", "doesRow", "(II)Z"⟩, 16), (⟨"SandLorryModel", "lacks", "(I)I"⟩, 16), (⟨"SandLorryModel", "told", "(II)I"⟩, 16)]
theorem lw_r3 : ∀ q ∈ lw_privs_3, lw_okq q := List.forall_mem_cons.mpr ⟨lw_p32, List.forall_mem_cons.mpr ⟨lw_p33, List.forall_mem_cons.mpr ⟨lw_p34, List.forall_mem_cons.mpr ⟨lw_p35, List.forall_mem_cons.mpr ⟨lw_p36, List.forall_mem_cons.mpr ⟨lw_p37, List.forall_mem_cons.mpr ⟨lw_p38, List.forall_mem_cons.mpr ⟨lw_p39, List.forall_mem_cons.mpr ⟨lw_p40, List.forall_mem_cons.mpr ⟨lw_p41, List.forall_mem_cons.mpr ⟨lw_p42, List.forall_mem_cons.mpr ⟨lw_p43, List.forall_mem_cons.mpr ⟨lw_p44, List.forall_mem_cons.mpr ⟨lw_p45, List.forall_mem_cons.mpr ⟨lw_p46, fun _ h => absurd h List.not_mem_nil⟩⟩⟩⟩⟩⟩⟩⟩⟩⟩⟩⟩⟩⟩⟩
def lw_privs : List (MethodName × Nat) := lw_privs_1 ++ (lw_privs_2 ++ (lw_privs_3))
def lw_tbl : List Cond := k2_sels lw_privs ++ tables_1
theorem lw_privs_ok : ∀ q ∈ lw_privs, lw_okq q := by
  show ∀ q ∈ lw_privs_1 ++ (lw_privs_2 ++ (lw_privs_3)), lw_okq q
  exact List.forall_mem_append.mpr ⟨lw_r1, List.forall_mem_append.mpr ⟨lw_r2, lw_r3⟩⟩
-- ===== end of PART A; then your names; then what follows =====
end
section
def R_L : String := "SandLorry$Lorry"
def F_L : u_T := fun k => match k with
  | 0 => ("SandLorry$Lorry", "firm", "[I", true)
  | _ => ("SandLorry$Lorry", "has", "[I", true)
def ft_L : Nat → FieldType := fun k => match k with
  | 0 => .array .int
  | _ => .array .int
theorem n_L : ∀ a, a < 2 → ∀ b, b < 2 → a ≠ b → (F_L a).2.1 ≠ (F_L b).2.1 := by decide +kernel
theorem ft_L_ok : ∀ k, k < 2 → parseFieldDescriptor (F_L k).2.2.1 = some (ft_L k) := by decide +kernel
def R_C : String := "SandLorry$Scene"
def F_C : u_T := fun k => match k with
  | 0 => ("SandLorry$Scene", "lorry", "LSandLorry$Lorry;", true)
  | 1 => ("SandLorry$Scene", "firm", "[I", true)
  | 2 => ("SandLorry$Scene", "slots", "[I", true)
  | 3 => ("SandLorry$Scene", "spots", "[I", true)
  | 4 => ("SandLorry$Scene", "plan", "[I", true)
  | 5 => ("SandLorry$Scene", "planned", "I", false)
  | _ => ("SandLorry$Scene", "z", "I", false)
def ft_C : Nat → FieldType := fun k => match k with
  | 0 => .object "SandLorry$Lorry"
  | 1 => .array .int
  | 2 => .array .int
  | 3 => .array .int
  | 4 => .array .int
  | 5 => .int
  | _ => .int
theorem n_C : ∀ a, a < 7 → ∀ b, b < 7 → a ≠ b → (F_C a).2.1 ≠ (F_C b).2.1 := by decide +kernel
theorem ft_C_ok : ∀ k, k < 7 → parseFieldDescriptor (F_C k).2.2.1 = some (ft_C k) := by decide +kernel
def R_H : String := "SandLorry$Search"
def F_H : u_T := fun k => match k with
  | 0 => ("SandLorry$Search", "behind", "[LSandLorry$Lorry;", true)
  | 1 => ("SandLorry$Search", "isFound", "Z", false)
  | 2 => ("SandLorry$Search", "gain", "I", false)
  | 3 => ("SandLorry$Search", "drunk", "I", false)
  | _ => ("SandLorry$Search", "digits", "I", false)
def ft_H : Nat → FieldType := fun k => match k with
  | 0 => .array (.object "SandLorry$Lorry")
  | 1 => .boolean
  | 2 => .int
  | 3 => .int
  | _ => .int
theorem n_H : ∀ a, a < 5 → ∀ b, b < 5 → a ≠ b → (F_H a).2.1 ≠ (F_H b).2.1 := by decide +kernel
theorem ft_H_ok : ∀ k, k < 5 → parseFieldDescriptor (F_H k).2.2.1 = some (ft_H k) := by decide +kernel
def R_T : String := "SandLorry$Sheet"
def F_T : u_T := fun k => match k with
  | 0 => ("SandLorry$Sheet", "numbers", "[I", true)
  | 1 => ("SandLorry$Sheet", "bits", "I", false)
  | _ => ("SandLorry$Sheet", "size", "I", false)
def ft_T : Nat → FieldType := fun k => match k with
  | 0 => .array .int
  | 1 => .int
  | _ => .int
theorem n_T : ∀ a, a < 3 → ∀ b, b < 3 → a ≠ b → (F_T a).2.1 ≠ (F_T b).2.1 := by decide +kernel
theorem ft_T_ok : ∀ k, k < 3 → parseFieldDescriptor (F_T k).2.2.1 = some (ft_T k) := by decide +kernel
def R_P : String := "SandLorry$Tape"
def F_P : u_T := fun k => match k with
  | 0 => ("SandLorry$Tape", "bytes", "[I", true)
  | 1 => ("SandLorry$Tape", "length", "I", false)
  | 2 => ("SandLorry$Tape", "token", "I", false)
  | 3 => ("SandLorry$Tape", "start", "I", false)
  | 4 => ("SandLorry$Tape", "end", "I", false)
  | _ => ("SandLorry$Tape", "value", "I", false)
def ft_P : Nat → FieldType := fun k => match k with
  | 0 => .array .int
  | 1 => .int
  | 2 => .int
  | 3 => .int
  | 4 => .int
  | _ => .int
theorem n_P : ∀ a, a < 6 → ∀ b, b < 6 → a ≠ b → (F_P a).2.1 ≠ (F_P b).2.1 := by decide +kernel
theorem ft_P_ok : ∀ k, k < 6 → parseFieldDescriptor (F_P k).2.2.1 = some (ft_P k) := by decide +kernel
def R_S : String := "SandLorry"
def F_S : u_T := fun k => match k with
  | 0 => ("SandLorry", "scene", "LSandLorry$Scene;", true)
  | 1 => ("SandLorry", "kept", "LSandLorry$Scene;", true)
  | 2 => ("SandLorry", "draft", "LSandLorry$Scene;", true)
  | 3 => ("SandLorry", "lorry", "LSandLorry$Lorry;", true)
  | 4 => ("SandLorry", "trial", "LSandLorry$Lorry;", true)
  | 5 => ("SandLorry", "search", "LSandLorry$Search;", true)
  | 6 => ("SandLorry", "tape", "LSandLorry$Tape;", true)
  | 7 => ("SandLorry", "sheets", "[LSandLorry$Sheet;", true)
  | 8 => ("SandLorry", "findings", "[I", true)
  | _ => ("SandLorry", "isKept", "Z", false)
def ft_S : Nat → FieldType := fun k => match k with
  | 0 => .object "SandLorry$Scene"
  | 1 => .object "SandLorry$Scene"
  | 2 => .object "SandLorry$Scene"
  | 3 => .object "SandLorry$Lorry"
  | 4 => .object "SandLorry$Lorry"
  | 5 => .object "SandLorry$Search"
  | 6 => .object "SandLorry$Tape"
  | 7 => .array (.object "SandLorry$Sheet")
  | 8 => .array .int
  | _ => .boolean
theorem n_S : ∀ a, a < 10 → ∀ b, b < 10 → a ≠ b → (F_S a).2.1 ≠ (F_S b).2.1 := by decide +kernel
theorem ft_S_ok : ∀ k, k < 10 → parseFieldDescriptor (F_S k).2.2.1 = some (ft_S k) := by decide +kernel
def R_M : String := "SandLorryModel"
def F_M : u_T := fun k => match k with
  | 0 => ("SandLorryModel", "s", "[I", true)
  | 1 => ("SandLorryModel", "kept", "[I", true)
  | 2 => ("SandLorryModel", "put", "[I", true)
  | 3 => ("SandLorryModel", "isKept", "Z", false)
  | 4 => ("SandLorryModel", "findings", "[I", true)
  | 5 => ("SandLorryModel", "tape", "[I", true)
  | 6 => ("SandLorryModel", "taped", "I", false)
  | 7 => ("SandLorryModel", "at", "I", false)
  | 8 => ("SandLorryModel", "token", "I", false)
  | 9 => ("SandLorryModel", "tokenAt", "I", false)
  | 10 => ("SandLorryModel", "value", "I", false)
  | 11 => ("SandLorryModel", "row", "[I", true)
  | 12 => ("SandLorryModel", "bits", "[I", true)
  | 13 => ("SandLorryModel", "sizes", "[I", true)
  | 14 => ("SandLorryModel", "number", "[I", true)
  | _ => ("SandLorryModel", "carried", "[I", true)
def ft_M : Nat → FieldType := fun k => match k with
  | 0 => .array .int
  | 1 => .array .int
  | 2 => .array .int
  | 3 => .boolean
  | 4 => .array .int
  | 5 => .array .int
  | 6 => .int
  | 7 => .int
  | 8 => .int
  | 9 => .int
  | 10 => .int
  | 11 => .array .int
  | 12 => .array .int
  | 13 => .array .int
  | 14 => .array .int
  | _ => .array .int
theorem n_M : ∀ a, a < 16 → ∀ b, b < 16 → a ≠ b → (F_M a).2.1 ≠ (F_M b).2.1 := by decide +kernel
theorem ft_M_ok : ∀ k, k < 16 → parseFieldDescriptor (F_M k).2.2.1 = some (ft_M k) := by decide +kernel
abbrev cls : List vw_C := [(R_L, F_L, 2), (R_C, F_C, 7), (R_H, F_H, 5), (R_T, F_T, 3), (R_P, F_P, 6), (R_S, F_S, 10), (R_M, F_M, 16)]
abbrev clsT : Nat → Nat → FieldType := fun c => match c with
  | 0 => ft_L
  | 1 => ft_C
  | 2 => ft_H
  | 3 => ft_T
  | 4 => ft_P
  | 5 => ft_S
  | _ => ft_M
abbrev Mth : Type := MethodName × ByteArray × Nat × Option FieldType
def k_S_init : Mth := (⟨"SandLorry", "<init>", "()V"⟩, prog_1_method_1_code, 1, none)
def k_JO_init : Mth := (⟨"java/lang/Object", "<init>", "()V"⟩, object_method_1_code, 1, none)
def k_C_init : Mth := (⟨"SandLorry$Scene", "<init>", "()V"⟩, prog_3_method_1_code, 1, none)
def k_L_init : Mth := (⟨"SandLorry$Lorry", "<init>", "([I)V"⟩, prog_2_method_1_code, 2, none)
def k_JA_fill : Mth := (⟨"java/util/Arrays", "fill", "([II)V"⟩, prog_14_method_103_code, 4, none)
def k_H_init : Mth := (⟨"SandLorry$Search", "<init>", "([I)V"⟩, prog_4_method_1_code, 3, none)
def k_P_init : Mth := (⟨"SandLorry$Tape", "<init>", "()V"⟩, prog_6_method_1_code, 1, none)
def k_T_init : Mth := (⟨"SandLorry$Sheet", "<init>", "()V"⟩, prog_5_method_1_code, 1, none)
def k_S_sand : Mth := (⟨"SandLorry", "sand", "(II)I"⟩, prog_1_method_2_code, 4, (some .int))
def k_S_isYard : Mth := (⟨"SandLorry", "isYard", "(I)Z"⟩, prog_1_method_45_code, 1, (some .boolean))
def k_S_finding : Mth := (⟨"SandLorry", "finding", "(I)I"⟩, prog_1_method_42_code, 2, (some .int))
def k_S_yardOf : Mth := (⟨"SandLorry", "yardOf", "(II)I"⟩, prog_1_method_3_code, 4, (some .int))
def k_L_gripOf : Mth := (⟨"SandLorry$Lorry", "gripOf", "(II)I"⟩, prog_2_method_8_code, 5, (some .int))
def k_L_hour : Mth := (⟨"SandLorry$Lorry", "hour", "()I"⟩, prog_2_method_5_code, 1, (some .int))
def k_S_set : Mth := (⟨"SandLorry", "set", "(II)I"⟩, prog_1_method_4_code, 4, (some .int))
def k_S_leastOf : Mth := (⟨"SandLorry", "leastOf", "(I)I"⟩, prog_1_method_49_code, 1, (some .int))
def k_S_mostOf : Mth := (⟨"SandLorry", "mostOf", "(I)I"⟩, prog_1_method_50_code, 1, (some .int))
def k_S_now : Mth := (⟨"SandLorry", "now", "(I)I"⟩, prog_1_method_5_code, 2, (some .int))
def k_L_heat : Mth := (⟨"SandLorry$Lorry", "heat", "()I"⟩, prog_2_method_6_code, 2, (some .int))
def k_L_weight : Mth := (⟨"SandLorry$Lorry", "weight", "()I"⟩, prog_2_method_7_code, 1, (some .int))
def k_S_weightOf : Mth := (⟨"SandLorry", "weightOf", "(II)I"⟩, prog_1_method_51_code, 2, (some .int))
def k_L_isOut : Mth := (⟨"SandLorry$Lorry", "isOut", "()Z"⟩, prog_2_method_4_code, 1, (some .boolean))
def k_S_soft : Mth := (⟨"SandLorry", "soft", "(II)I"⟩, prog_1_method_6_code, 7, (some .int))
def k_S_wind : Mth := (⟨"SandLorry", "wind", "(I)I"⟩, prog_1_method_7_code, 5, (some .int))
def k_C_draw : Mth := (⟨"SandLorry$Scene", "draw", "()I"⟩, prog_3_method_3_code, 1, (some .int))
def k_C_firmInAll : Mth := (⟨"SandLorry$Scene", "firmInAll", "()I"⟩, prog_3_method_4_code, 3, (some .int))
def k_S_effort : Mth := (⟨"SandLorry", "effort", "(II)I"⟩, prog_1_method_8_code, 3, (some .int))
def k_S_isSlot : Mth := (⟨"SandLorry", "isSlot", "(I)Z"⟩, prog_1_method_46_code, 1, (some .boolean))
def k_S_effortOf : Mth := (⟨"SandLorry", "effortOf", "(II)I"⟩, prog_1_method_9_code, 4, (some .int))
def k_L_minutesOf : Mth := (⟨"SandLorry$Lorry", "minutesOf", "(I)I"⟩, prog_2_method_9_code, 2, (some .int))
def k_S_workOf : Mth := (⟨"SandLorry", "workOf", "(I)I"⟩, prog_1_method_54_code, 1, (some .int))
def k_L_drinkOf : Mth := (⟨"SandLorry$Lorry", "drinkOf", "(I)I"⟩, prog_2_method_10_code, 2, (some .int))
def k_S_go : Mth := (⟨"SandLorry", "go", "(I)I"⟩, prog_1_method_10_code, 4, (some .int))
def k_L_carriesOut : Mth := (⟨"SandLorry$Lorry", "carriesOut", "(I)Z"⟩, prog_2_method_12_code, 3, (some .boolean))
def k_S_isOfKind : Mth := (⟨"SandLorry", "isOfKind", "(II)Z"⟩, prog_1_method_53_code, 4, (some .boolean))
def k_S_kindAbove : Mth := (⟨"SandLorry", "kindAbove", "(I)I"⟩, prog_1_method_52_code, 1, (some .int))
def k_JM_max : Mth := (⟨"java/lang/Math", "max", "(II)I"⟩, prog_9_method_65_code, 2, (some .int))
def k_JM_min : Mth := (⟨"java/lang/Math", "min", "(II)I"⟩, prog_9_method_69_code, 2, (some .int))
def k_L_drive : Mth := (⟨"SandLorry$Lorry", "drive", "(I)V"⟩, prog_2_method_13_code, 9, none)
def k_L_push : Mth := (⟨"SandLorry$Lorry", "push", "(III)Z"⟩, prog_2_method_14_code, 6, (some .boolean))
def k_S_gives : Mth := (⟨"SandLorry", "gives", "(II)I"⟩, prog_1_method_11_code, 4, (some .int))
def k_L_become : Mth := (⟨"SandLorry$Lorry", "become", "(LSandLorry$Lorry;)V"⟩, prog_2_method_2_code, 2, none)
def k_L_since : Mth := (⟨"SandLorry$Lorry", "since", "(LSandLorry$Lorry;I)I"⟩, prog_2_method_3_code, 3, (some .int))
def k_S_lasts : Mth := (⟨"SandLorry", "lasts", "(I)I"⟩, prog_1_method_12_code, 4, (some .int))
def k_S_out : Mth := (⟨"SandLorry", "out", "(I)I"⟩, prog_1_method_13_code, 4, (some .int))
def k_S_timesTillOut : Mth := (⟨"SandLorry", "timesTillOut", "(II)I"⟩, prog_1_method_43_code, 4, (some .int))
def k_S_when : Mth := (⟨"SandLorry", "when", "(I)I"⟩, prog_1_method_14_code, 8, (some .int))
def k_L_passHours : Mth := (⟨"SandLorry$Lorry", "passHours", "(I)V"⟩, prog_2_method_11_code, 2, none)
def k_S_feed : Mth := (⟨"SandLorry", "feed", "(II)I"⟩, prog_1_method_15_code, 4, (some .int))
def k_P_append : Mth := (⟨"SandLorry$Tape", "append", "(I)V"⟩, prog_6_method_2_code, 2, none)
def k_S_wipe : Mth := (⟨"SandLorry", "wipe", "()I"⟩, prog_1_method_16_code, 2, (some .int))
def k_S_text : Mth := (⟨"SandLorry", "text", "()I"⟩, prog_1_method_17_code, 2, (some .int))
def k_C_become : Mth := (⟨"SandLorry$Scene", "become", "(LSandLorry$Scene;)V"⟩, prog_3_method_2_code, 2, none)
def k_P_readInto : Mth := (⟨"SandLorry$Tape", "readInto", "(LSandLorry$Scene;)I"⟩, prog_6_method_3_code, 3, (some .int))
def k_P_step : Mth := (⟨"SandLorry$Tape", "step", "()V"⟩, prog_6_method_8_code, 2, none)
def k_P_endOfRun : Mth := (⟨"SandLorry$Tape", "endOfRun", "(III)I"⟩, prog_6_method_9_code, 5, (some .int))
def k_P_numberRead : Mth := (⟨"SandLorry$Tape", "numberRead", "()I"⟩, prog_6_method_10_code, 3, (some .int))
def k_P_readItem : Mth := (⟨"SandLorry$Tape", "readItem", "(LSandLorry$Scene;)Z"⟩, prog_6_method_4_code, 3, (some .boolean))
def k_P_wordRead : Mth := (⟨"SandLorry$Tape", "wordRead", "()I"⟩, prog_6_method_11_code, 2, (some .int))
def k_P_wordOf : Mth := (⟨"SandLorry$Tape", "wordOf", "(I)Ljava/lang/String;"⟩, prog_6_method_13_code, 1, (some (.object "java/lang/String")))
def k_P_spells : Mth := (⟨"SandLorry$Tape", "spells", "(Ljava/lang/String;)Z"⟩, prog_6_method_12_code, 3, (some .boolean))
def k_JS_length : Mth := (⟨"java/lang/String", "length", "()I"⟩, prog_10_method_54_code, 1, (some .int))
def k_JS_coder : Mth := (⟨"java/lang/String", "coder", "()B"⟩, prog_10_method_152_code, 1, (some .byte))
def k_JS_charAt : Mth := (⟨"java/lang/String", "charAt", "(I)C"⟩, prog_10_method_56_code, 2, (some .char))
def k_JS_isLatin1 : Mth := (⟨"java/lang/String", "isLatin1", "()Z"⟩, prog_10_method_154_code, 1, (some .boolean))
def k_JL_charAt : Mth := (⟨"java/lang/StringLatin1", "charAt", "([BI)C"⟩, prog_11_method_2_code, 2, (some .char))
def k_JS_checkIndex : Mth := (⟨"java/lang/String", "checkIndex", "(II)V"⟩, prog_10_method_155_code, 2, none)
def k_JP_checkIndex : Mth := (⟨"jdk/internal/util/Preconditions", "checkIndex", "(IILjava/util/function/BiFunction;)I"⟩, prog_15_method_11_code, 3, (some .int))
def k_JU_charAt : Mth := (⟨"java/lang/StringUTF16", "charAt", "([BI)C"⟩, prog_12_method_83_code, 2, (some .char))
def k_JU_checkIndex : Mth := (⟨"java/lang/StringUTF16", "checkIndex", "(I[B)V"⟩, prog_12_method_91_code, 2, none)
def k_JU_length : Mth := (⟨"java/lang/StringUTF16", "length", "([B)I"⟩, prog_12_method_6_code, 1, (some .int))
def k_JU_getChar : Mth := (⟨"java/lang/StringUTF16", "getChar", "([BI)C"⟩, prog_12_method_5_code, 2, (some .char))
def k_P_readEfforts : Mth := (⟨"SandLorry$Tape", "readEfforts", "(LSandLorry$Scene;I)Z"⟩, prog_6_method_5_code, 4, (some .boolean))
def k_C_hasRoomFor : Mth := (⟨"SandLorry$Scene", "hasRoomFor", "(I)Z"⟩, prog_3_method_5_code, 2, (some .boolean))
def k_C_addToPlan : Mth := (⟨"SandLorry$Scene", "addToPlan", "(II)V"⟩, prog_3_method_6_code, 4, none)
def k_P_readSand : Mth := (⟨"SandLorry$Tape", "readSand", "(LSandLorry$Scene;)Z"⟩, prog_6_method_6_code, 4, (some .boolean))
def k_P_readNumber : Mth := (⟨"SandLorry$Tape", "readNumber", "(LSandLorry$Scene;I)Z"⟩, prog_6_method_7_code, 3, (some .boolean))
def k_S_planOf : Mth := (⟨"SandLorry", "planOf", "(I)I"⟩, prog_1_method_18_code, 2, (some .int))
def k_S_clear : Mth := (⟨"SandLorry", "clear", "()I"⟩, prog_1_method_19_code, 2, (some .int))
def k_S_follow : Mth := (⟨"SandLorry", "follow", "()I"⟩, prog_1_method_20_code, 1, (some .int))
def k_C_planDoneBy : Mth := (⟨"SandLorry$Scene", "planDoneBy", "(LSandLorry$Lorry;)I"⟩, prog_3_method_7_code, 3, (some .int))
def k_S_plans : Mth := (⟨"SandLorry", "plans", "(I)I"⟩, prog_1_method_21_code, 3, (some .int))
def k_S_best : Mth := (⟨"SandLorry", "best", "(II)I"⟩, prog_1_method_22_code, 3, (some .int))
def k_H_begin : Mth := (⟨"SandLorry$Search", "begin", "(LSandLorry$Lorry;)V"⟩, prog_4_method_2_code, 2, none)
def k_H_tryRows : Mth := (⟨"SandLorry$Search", "tryRows", "(LSandLorry$Search;III)V"⟩, prog_4_method_3_code, 6, none)
def k_H_weigh : Mth := (⟨"SandLorry$Search", "weigh", "(LSandLorry$Lorry;I)V"⟩, prog_4_method_4_code, 5, none)
def k_S_airFor : Mth := (⟨"SandLorry", "airFor", "(I)I"⟩, prog_1_method_23_code, 3, (some .int))
def k_S_sacksFor : Mth := (⟨"SandLorry", "sacksFor", "(I)I"⟩, prog_1_method_24_code, 4, (some .int))
def k_S_waterFor : Mth := (⟨"SandLorry", "waterFor", "()I"⟩, prog_1_method_25_code, 1, (some .int))
def k_S_boardsFor : Mth := (⟨"SandLorry", "boardsFor", "(I)I"⟩, prog_1_method_26_code, 3, (some .int))
def k_S_way : Mth := (⟨"SandLorry", "way", "()I"⟩, prog_1_method_27_code, 3, (some .int))
def k_S_odds : Mth := (⟨"SandLorry", "odds", "(I)I"⟩, prog_1_method_28_code, 5, (some .int))
def k_S_seed : Mth := (⟨"SandLorry", "seed", "(I)I"⟩, prog_1_method_29_code, 3, (some .int))
def k_S_hold : Mth := (⟨"SandLorry", "hold", "(II)I"⟩, prog_1_method_30_code, 3, (some .int))
def k_S_isSpot : Mth := (⟨"SandLorry", "isSpot", "(I)Z"⟩, prog_1_method_47_code, 1, (some .boolean))
def k_S_as : Mth := (⟨"SandLorry", "as", "(II)I"⟩, prog_1_method_31_code, 4, (some .int))
def k_S_sheet : Mth := (⟨"SandLorry", "sheet", "(III)I"⟩, prog_1_method_32_code, 4, (some .int))
def k_S_isSheet : Mth := (⟨"SandLorry", "isSheet", "(I)Z"⟩, prog_1_method_48_code, 1, (some .boolean))
def k_T_renew : Mth := (⟨"SandLorry$Sheet", "renew", "(II)V"⟩, prog_5_method_3_code, 3, none)
def k_T_isMissing : Mth := (⟨"SandLorry$Sheet", "isMissing", "()Z"⟩, prog_5_method_2_code, 1, (some .boolean))
def k_S_write : Mth := (⟨"SandLorry", "write", "(III)I"⟩, prog_1_method_33_code, 5, (some .int))
def k_T_hasAll : Mth := (⟨"SandLorry$Sheet", "hasAll", "(II)Z"⟩, prog_5_method_4_code, 3, (some .boolean))
def k_T_fitted : Mth := (⟨"SandLorry$Sheet", "fitted", "(I)I"⟩, prog_5_method_5_code, 2, (some .int))
def k_S_copy : Mth := (⟨"SandLorry", "copy", "(IIIII)I"⟩, prog_1_method_34_code, 8, (some .int))
def k_S_load : Mth := (⟨"SandLorry", "load", "(II)I"⟩, prog_1_method_35_code, 6, (some .int))
def k_S_judge : Mth := (⟨"SandLorry", "judge", "(I)I"⟩, prog_1_method_36_code, 5, (some .int))
def k_S_image : Mth := (⟨"SandLorry", "image", "()I"⟩, prog_1_method_37_code, 1, (some .int))
def k_S_undo : Mth := (⟨"SandLorry", "undo", "()I"⟩, prog_1_method_38_code, 1, (some .int))
def k_S_tear : Mth := (⟨"SandLorry", "tear", "()I"⟩, prog_1_method_39_code, 2, (some .int))
def k_S_count : Mth := (⟨"SandLorry", "count", "(I)I"⟩, prog_1_method_40_code, 2, (some .int))
def k_S_filledOf : Mth := (⟨"SandLorry", "filledOf", "([I)I"⟩, prog_1_method_44_code, 3, (some .int))
def k_S_status : Mth := (⟨"SandLorry", "status", "(I)I"⟩, prog_1_method_41_code, 4, (some .int))
def k_M_init : Mth := (⟨"SandLorryModel", "<init>", "()V"⟩, prog_8_method_1_code, 2, none)
def k_M_sand : Mth := (⟨"SandLorryModel", "sand", "(II)I"⟩, prog_8_method_14_code, 4, (some .int))
def k_M_isYard : Mth := (⟨"SandLorryModel", "isYard", "(I)Z"⟩, prog_8_method_7_code, 1, (some .boolean))
def k_M_in : Mth := (⟨"SandLorryModel", "in", "(III)Z"⟩, prog_8_method_3_code, 3, (some .boolean))
def k_M_finding : Mth := (⟨"SandLorryModel", "finding", "(I)I"⟩, prog_8_method_2_code, 2, (some .int))
def k_M_yardOf : Mth := (⟨"SandLorryModel", "yardOf", "(II)I"⟩, prog_8_method_15_code, 3, (some .int))
def k_M_grip : Mth := (⟨"SandLorryModel", "grip", "(I)I"⟩, prog_8_method_12_code, 2, (some .int))
def k_M_gripOf : Mth := (⟨"SandLorryModel", "gripOf", "(II)I"⟩, prog_8_method_11_code, 3, (some .int))
def k_M_hour : Mth := (⟨"SandLorryModel", "hour", "()I"⟩, prog_8_method_9_code, 1, (some .int))
def k_M_set : Mth := (⟨"SandLorryModel", "set", "(II)I"⟩, prog_8_method_18_code, 4, (some .int))
def k_M_isSet : Mth := (⟨"SandLorryModel", "isSet", "(II)Z"⟩, prog_8_method_17_code, 2, (some .boolean))
def k_M_mostOf : Mth := (⟨"SandLorryModel", "mostOf", "(I)I"⟩, prog_8_method_16_code, 1, (some .int))
def k_M_now : Mth := (⟨"SandLorryModel", "now", "(I)I"⟩, prog_8_method_19_code, 2, (some .int))
def k_M_heat : Mth := (⟨"SandLorryModel", "heat", "()I"⟩, prog_8_method_10_code, 2, (some .int))
def k_M_weight : Mth := (⟨"SandLorryModel", "weight", "()I"⟩, prog_8_method_13_code, 1, (some .int))
def k_M_isOut : Mth := (⟨"SandLorryModel", "isOut", "()Z"⟩, prog_8_method_8_code, 1, (some .boolean))
def k_M_soft : Mth := (⟨"SandLorryModel", "soft", "(II)I"⟩, prog_8_method_20_code, 7, (some .int))
def k_M_wind : Mth := (⟨"SandLorryModel", "wind", "(I)I"⟩, prog_8_method_23_code, 4, (some .int))
def k_M_draw : Mth := (⟨"SandLorryModel", "draw", "()I"⟩, prog_8_method_21_code, 1, (some .int))
def k_M_allFirm : Mth := (⟨"SandLorryModel", "allFirm", "()I"⟩, prog_8_method_22_code, 3, (some .int))
def k_M_effort : Mth := (⟨"SandLorryModel", "effort", "(II)I"⟩, prog_8_method_33_code, 3, (some .int))
def k_M_isSlot : Mth := (⟨"SandLorryModel", "isSlot", "(I)Z"⟩, prog_8_method_31_code, 1, (some .boolean))
def k_M_isKind : Mth := (⟨"SandLorryModel", "isKind", "(I)Z"⟩, prog_8_method_32_code, 1, (some .boolean))
def k_M_effortOf : Mth := (⟨"SandLorryModel", "effortOf", "(II)I"⟩, prog_8_method_34_code, 4, (some .int))
def k_M_minutesOf : Mth := (⟨"SandLorryModel", "minutesOf", "(I)I"⟩, prog_8_method_24_code, 3, (some .int))
def k_M_workOf : Mth := (⟨"SandLorryModel", "workOf", "(I)I"⟩, prog_8_method_25_code, 1, (some .int))
def k_M_drinks : Mth := (⟨"SandLorryModel", "drinks", "(I)I"⟩, prog_8_method_26_code, 2, (some .int))
def k_M_go : Mth := (⟨"SandLorryModel", "go", "(I)I"⟩, prog_8_method_35_code, 4, (some .int))
def k_M_canDo : Mth := (⟨"SandLorryModel", "canDo", "(I)Z"⟩, prog_8_method_27_code, 2, (some .boolean))
def k_M_does : Mth := (⟨"SandLorryModel", "does", "(I)V"⟩, prog_8_method_30_code, 5, none)
def k_M_digs : Mth := (⟨"SandLorryModel", "digs", "()V"⟩, prog_8_method_29_code, 2, none)
def k_M_pushes : Mth := (⟨"SandLorryModel", "pushes", "(IIIII)V"⟩, prog_8_method_28_code, 10, none)
def k_M_gives : Mth := (⟨"SandLorryModel", "gives", "(II)I"⟩, prog_8_method_37_code, 4, (some .int))
def k_M_begin : Mth := (⟨"SandLorryModel", "begin", "()V"⟩, prog_8_method_5_code, 1, none)
def k_M_lay : Mth := (⟨"SandLorryModel", "lay", "([I[I)V"⟩, prog_8_method_4_code, 3, none)
def k_M_became : Mth := (⟨"SandLorryModel", "became", "(I)I"⟩, prog_8_method_36_code, 3, (some .int))
def k_M_layBack : Mth := (⟨"SandLorryModel", "layBack", "()V"⟩, prog_8_method_6_code, 1, none)
def k_M_lasts : Mth := (⟨"SandLorryModel", "lasts", "(I)I"⟩, prog_8_method_39_code, 3, (some .int))
def k_M_again : Mth := (⟨"SandLorryModel", "again", "(II)I"⟩, prog_8_method_38_code, 4, (some .int))
def k_M_out : Mth := (⟨"SandLorryModel", "out", "(I)I"⟩, prog_8_method_40_code, 3, (some .int))
def k_M_outBy : Mth := (⟨"SandLorryModel", "outBy", "(II)I"⟩, prog_8_method_41_code, 4, (some .int))
def k_M_when : Mth := (⟨"SandLorryModel", "when", "(I)I"⟩, prog_8_method_42_code, 8, (some .int))
def k_M_feed : Mth := (⟨"SandLorryModel", "feed", "(II)I"⟩, prog_8_method_43_code, 4, (some .int))
def k_M_wipe : Mth := (⟨"SandLorryModel", "wipe", "()I"⟩, prog_8_method_44_code, 2, (some .int))
def k_M_text : Mth := (⟨"SandLorryModel", "text", "()I"⟩, prog_8_method_54_code, 2, (some .int))
def k_M_takesAll : Mth := (⟨"SandLorryModel", "takesAll", "()Z"⟩, prog_8_method_53_code, 1, (some .boolean))
def k_M_next : Mth := (⟨"SandLorryModel", "next", "()V"⟩, prog_8_method_46_code, 2, none)
def k_M_byteAt : Mth := (⟨"SandLorryModel", "byteAt", "(I)I"⟩, prog_8_method_45_code, 2, (some .int))
def k_M_takesItem : Mth := (⟨"SandLorryModel", "takesItem", "()Z"⟩, prog_8_method_52_code, 3, (some .boolean))
def k_M_isWord : Mth := (⟨"SandLorryModel", "isWord", "(Ljava/lang/String;)Z"⟩, prog_8_method_47_code, 4, (some .boolean))
def k_M_takesSand : Mth := (⟨"SandLorryModel", "takesSand", "()Z"⟩, prog_8_method_49_code, 3, (some .boolean))
def k_M_isNumber : Mth := (⟨"SandLorryModel", "isNumber", "(II)Z"⟩, prog_8_method_48_code, 3, (some .boolean))
def k_M_takesSet : Mth := (⟨"SandLorryModel", "takesSet", "(I)Z"⟩, prog_8_method_50_code, 2, (some .boolean))
def k_M_takesKind : Mth := (⟨"SandLorryModel", "takesKind", "(I)Z"⟩, prog_8_method_51_code, 4, (some .boolean))
def k_M_planOf : Mth := (⟨"SandLorryModel", "planOf", "(I)I"⟩, prog_8_method_55_code, 2, (some .int))
def k_M_clear : Mth := (⟨"SandLorryModel", "clear", "()I"⟩, prog_8_method_56_code, 2, (some .int))
def k_M_follow : Mth := (⟨"SandLorryModel", "follow", "()I"⟩, prog_8_method_58_code, 1, (some .int))
def k_M_follows : Mth := (⟨"SandLorryModel", "follows", "()I"⟩, prog_8_method_57_code, 2, (some .int))
def k_M_plans : Mth := (⟨"SandLorryModel", "plans", "(I)I"⟩, prog_8_method_59_code, 4, (some .int))
def k_M_best : Mth := (⟨"SandLorryModel", "best", "(II)I"⟩, prog_8_method_62_code, 11, (some .int))
def k_M_doesRow : Mth := (⟨"SandLorryModel", "doesRow", "(II)Z"⟩, prog_8_method_60_code, 6, (some .boolean))
def k_M_digits : Mth := (⟨"SandLorryModel", "digits", "(II)I"⟩, prog_8_method_61_code, 2, (some .int))
def k_M_airFor : Mth := (⟨"SandLorryModel", "airFor", "(I)I"⟩, prog_8_method_63_code, 3, (some .int))
def k_M_sacksFor : Mth := (⟨"SandLorryModel", "sacksFor", "(I)I"⟩, prog_8_method_64_code, 3, (some .int))
def k_M_waterFor : Mth := (⟨"SandLorryModel", "waterFor", "()I"⟩, prog_8_method_65_code, 4, (some .int))
def k_M_boardsFor : Mth := (⟨"SandLorryModel", "boardsFor", "(I)I"⟩, prog_8_method_66_code, 5, (some .int))
def k_M_way : Mth := (⟨"SandLorryModel", "way", "()I"⟩, prog_8_method_67_code, 3, (some .int))
def k_M_odds : Mth := (⟨"SandLorryModel", "odds", "(I)I"⟩, prog_8_method_68_code, 4, (some .int))
def k_M_seed : Mth := (⟨"SandLorryModel", "seed", "(I)I"⟩, prog_8_method_69_code, 3, (some .int))
def k_M_hold : Mth := (⟨"SandLorryModel", "hold", "(II)I"⟩, prog_8_method_70_code, 3, (some .int))
def k_M_as : Mth := (⟨"SandLorryModel", "as", "(II)I"⟩, prog_8_method_72_code, 4, (some .int))
def k_M_isUnder : Mth := (⟨"SandLorryModel", "isUnder", "(II)Z"⟩, prog_8_method_71_code, 2, (some .boolean))
def k_M_sheet : Mth := (⟨"SandLorryModel", "sheet", "(III)I"⟩, prog_8_method_74_code, 5, (some .int))
def k_M_isSheet : Mth := (⟨"SandLorryModel", "isSheet", "(I)Z"⟩, prog_8_method_73_code, 1, (some .boolean))
def k_M_write : Mth := (⟨"SandLorryModel", "write", "(III)I"⟩, prog_8_method_75_code, 5, (some .int))
def k_M_copy : Mth := (⟨"SandLorryModel", "copy", "(IIIII)I"⟩, prog_8_method_76_code, 7, (some .int))
def k_M_load : Mth := (⟨"SandLorryModel", "load", "(II)I"⟩, prog_8_method_78_code, 5, (some .int))
def k_M_lacks : Mth := (⟨"SandLorryModel", "lacks", "(I)I"⟩, prog_8_method_77_code, 2, (some .int))
def k_M_judge : Mth := (⟨"SandLorryModel", "judge", "(I)I"⟩, prog_8_method_79_code, 5, (some .int))
def k_M_image : Mth := (⟨"SandLorryModel", "image", "()I"⟩, prog_8_method_80_code, 1, (some .int))
def k_M_undo : Mth := (⟨"SandLorryModel", "undo", "()I"⟩, prog_8_method_81_code, 1, (some .int))
def k_M_tear : Mth := (⟨"SandLorryModel", "tear", "()I"⟩, prog_8_method_82_code, 2, (some .int))
def k_M_count : Mth := (⟨"SandLorryModel", "count", "(I)I"⟩, prog_8_method_84_code, 2, (some .int))
def k_M_told : Mth := (⟨"SandLorryModel", "told", "(II)I"⟩, prog_8_method_83_code, 5, (some .int))
def k_M_status : Mth := (⟨"SandLorryModel", "status", "(I)I"⟩, prog_8_method_85_code, 4, (some .int))
end
section
/-! ===== the judgement Sem: a method's run from a place on, over a pure memory: a list of cells, the cell at place c lies at the address base + c ===== -/
abbrev xC : Type := Nat × va_G × ClassId × (Nat → ClassId) × (State → Prop)
abbrev xB (X : xC) : Nat := X.1
abbrev xD (X : xC) : va_G := X.2.1
abbrev xI (X : xC) : ClassId := X.2.2.1
abbrev xR (X : xC) : Nat → ClassId := X.2.2.2.1
abbrev xE (X : xC) : State → Prop := X.2.2.2.2
def xTys (X : xC) : List (ClassId × FieldType) := [(xI X, .int), (xR X 0, .object "SandLorry$Lorry"), (xR X 1, .object "SandLorry$Sheet")]
def TG : List Cond := lw_tbl.filter goodWord
theorem TG_at (i : Nat) {w : Cond} (h : tables_1[i]? = some w) (hg : goodWord w = true) : w ∈ TG := List.mem_filter.mpr ⟨List.mem_append_right _ (List.mem_of_getElem? h), hg⟩
theorem TG_sel (i : Nat) {w : Cond} (h : (k2_sels lw_privs)[i]? = some w) (hg : goodWord w = true) : w ∈ TG := List.mem_filter.mpr ⟨List.mem_append_left _ (List.mem_of_getElem? h), hg⟩
theorem TG_good : GoodIn TG TG := fun w h => ⟨h, good_of_word (List.mem_filter.mp h).2⟩
abbrev wsM (k : Mth) : List Cond := .code k.1 k.2.1 k.2.2.1 k.2.2.2 :: TG
def nests : List (String × Nat × MethodName × String) := [("SandLorry", 48, ⟨"SandLorry$Tape", "<init>", "()V"⟩, "SandLorry"), ("SandLorry", 55, ⟨"SandLorry$Sheet", "<init>", "()V"⟩, "SandLorry"), ("SandLorry$Lorry", 32, ⟨"SandLorry", "weightOf", "(II)I"⟩, "SandLorry"), ("SandLorry$Lorry", 24, ⟨"SandLorry", "isYard", "(I)Z"⟩, "SandLorry"), ("SandLorry$Lorry", 36, ⟨"SandLorry", "workOf", "(I)I"⟩, "SandLorry"), ("SandLorry$Lorry", 53, ⟨"SandLorry", "isOfKind", "(II)Z"⟩, "SandLorry"), ("SandLorry$Tape", 62, ⟨"SandLorry", "isYard", "(I)Z"⟩, "SandLorry"), ("SandLorry$Tape", 68, ⟨"SandLorry", "leastOf", "(I)I"⟩, "SandLorry"), ("SandLorry$Tape", 72, ⟨"SandLorry", "mostOf", "(I)I"⟩, "SandLorry"), ("SandLorry", 164, ⟨"SandLorry$Search", "tryRows", "(LSandLorry$Search;III)V"⟩, "SandLorry")]
def toW (b : Nat) (M : List va_E) : va_W := M.mapIdx (fun c e => (b + c, e))
theorem toW_get {b : Nat} {M : List va_E} {c : Nat} {e : va_E} (h : M[c]? = some e) : (toW b M)[c]? = some (b + c, e) := by
  simp [toW, List.getElem?_mapIdx, h]
theorem toW_inv {b : Nat} {M : List va_E} {c : Nat} {q : Nat × va_E} (h : (toW b M)[c]? = some q) : ∃ e, M[c]? = some e ∧ q = (b + c, e) := by
  simp only [toW, List.getElem?_mapIdx, Option.map_eq_some_iff] at h
  obtain ⟨e, h1, h2⟩ := h
  exact ⟨e, h1, h2.symm⟩
theorem toW_set {b : Nat} {M : List va_E} {c : Nat} {e : va_E} : (toW b M).set c (b + c, e) = toW b (M.set c e) := by
  apply List.ext_getElem?
  intro i
  by_cases hi : i = c
  · subst hi
    by_cases hl : i < M.length
    · rw [List.getElem?_set_self (by simpa [toW] using hl), toW_get (List.getElem?_set_self hl)]
    · rw [List.getElem?_eq_none (by simpa [toW] using hl), List.getElem?_eq_none (by simpa [toW] using hl)]
  · rw [List.getElem?_set_ne (Ne.symm hi)]
    simp only [toW, List.getElem?_mapIdx]
    rw [List.getElem?_set_ne (Ne.symm hi)]
theorem toW_push {b : Nat} {M : List va_E} {e : va_E} : toW b M ++ [(b + M.length, e)] = toW b (M ++ [e]) := by
  simp [toW, List.mapIdx_append]
theorem toW_D {b : Nat} {M : List va_E} : va_D (fun q => b ≤ q) (toW b M) := by
  refine ⟨fun i j p q hi hj he => ?_, fun i q hi => ?_⟩
  · obtain ⟨e1, -, rfl⟩ := toW_inv hi
    obtain ⟨e2, -, rfl⟩ := toW_inv hj
    exact Nat.add_left_cancel he
  · obtain ⟨e1, -, rfl⟩ := toW_inv hi
    exact Nat.le_add_right _ _
def Wd (X : xC) (M : List va_E) (H : Heap) : Prop := va_P (xD X) cls (toW (xB X) M) H ∧ H.size = xB X + M.length
def EnvOK (X : xC) (U : State) : Prop := va_K (xD X) cls (xTys X) U ∧ (∀ q ∈ nests, va_Nw (.methodLinkNest q.1 q.2.1 q.2.2.1 q.2.2.2) U) ∧ va_AO "SandLorry$Lorry" U ∧ va_AO "SandLorry$Sheet" U ∧ xE X U
def XOK (X : xC) : Prop := ∀ u U : State, u.WarmedH U.vm → (∀ q, q < xB X → U.heap[q]? = u.heap[q]?) → xE X u → xE X U
theorem EnvOK.move {X : xC} (hX : XOK X) {s U : State} (hW : s.WarmedH U.vm) (hq : ∀ q, q < xB X → U.heap[q]? = s.heap[q]?) (h : EnvOK X s) : EnvOK X U :=
  ⟨va_K.moved hW.alike h.1, fun q hq => va_Nw.warmM hW (h.2.1 q hq), va_AO.moved hW.alike h.2.2.1, va_AO.moved hW.alike h.2.2.2.1, hX _ _ hW hq h.2.2.2.2⟩
def CtxOK (X : xC) (k : Mth) (d : Nat) (p : Program) (R : Room) (s : State) (m : MethodId) (args : Array Value) (meth : Method) (c : Code) : Prop :=
  p.tables.exec = Jvm.exec ∧ c.code = k.2.1 ∧ meth.sig.returnType = k.2.2.2 ∧ c.maxLocals = k.2.2.1 ∧ s.vm.findClass k.1.cls = some m.cls ∧ (∀ w ∈ TG, w.before args s = true) ∧ meth.locks = false ∧ meth.name = k.1.name ∧ xB X ≤ s.heap.size ∧ (d ≤ R.frames ∧ d * 64 ≤ R.locals) ∧ EnvOK X s ∧ XOK X
def LV (n : Nat) (ls : List (Option Value)) (la : Array Slot) : Prop := lv_has la n [] ∧ ∀ (i : Nat) (v : Value), ls[i]? = some (some v) → la[i]? = some (.val v) ∧ v.category = 1
def Qs (X : xC) (r : Option Value) (M : List va_E) : Array Value → State → Outcome → State → Prop := fun _ st o t => o = .returned r ∧ Wd X M t.heap ∧ va_F (fun q => xB X ≤ q) st t
def Sem (X : xC) (k : Mth) (d pc : Nat) (ls : List (Option Value)) (st : List Value) (M : List va_E) (r : Option Value) (M' : List va_E) (kc ks : Nat) : Prop :=
  ∀ (p : Program) (l : Launch) (e : Env) (R : Room) (s : State) (m : MethodId) (args : Array Value) (below : List Frame) (meth : Method) (c : Code), CtxOK X k d p R s m args meth c →
  ∀ (H : Heap) (locs : List Loc) (cells slots : Nat), Wd X M H → va_S (fun q => xB X ≤ q) s.heap H locs → cells + kc ≤ R.cells → slots + ks ≤ R.slots →
  ∀ la : Array Slot, LV k.2.2.1 ls la →
    W p l e R s m args below meth c H locs cells slots (MQ below (Qs X r M') args s (cells + kc) (slots + ks) (fun q => xB X ≤ q)) (F0 m pc la st)
abbrev dI (b : ByteArray) (pc : Nat) (i : Instr) (n pc' : Nat) : Prop := decode b pc = .ok (i, n) ∧ pc + n = pc'
abbrev dJ (b : ByteArray) (pc : Nat) (i : Instr) (off : Int) (pc' tgt : Nat) : Prop := decode b pc = .ok (i, 3) ∧ pc + 3 = pc' ∧ (pc : Int) + off = (tgt : Int)
def kl (ls : List (Option Value)) : List (Nat × Value) := ls.zipIdx.filterMap (fun q => q.1.map (fun v => (q.2, v)))
theorem kl_mem {ls : List (Option Value)} {i : Nat} {v : Value} : (i, v) ∈ kl ls ↔ ls[i]? = some (some v) := by
  constructor
  · intro h
    obtain ⟨⟨o, j⟩, h1, h2⟩ := List.mem_filterMap.mp h
    cases o with
    | none => simp at h2
    | some w =>
      simp only [Option.map_some, Option.some.injEq, Prod.mk.injEq] at h2
      obtain ⟨rfl, rfl⟩ := h2
      exact List.mem_zipIdx_iff_getElem?.mp h1
  · intro h
    exact List.mem_filterMap.mpr ⟨(some v, i), List.mem_zipIdx_iff_getElem?.mpr h, rfl⟩
theorem LV.has {n : Nat} {ls : List (Option Value)} {la : Array Slot} (h : LV n ls la) : lv_has la n (kl ls) := ⟨h.1.1, h.1.2.1, fun q hq => (h.2 q.1 q.2 (kl_mem.mp hq)).1⟩
theorem LV.set {n i : Nat} {ls : List (Option Value)} {la la' : Array Slot} {v : Value} (h : LV n ls la) (hv : v.category = 1) (h' : lv_has la' n ((i, v) :: (kl ls).filter (fun q => !(q.1 == i) && !(q.1 + 1 == i && q.2.category == 2)))) : LV n (ls.set i (some v)) la' := by
  refine ⟨⟨h'.1, h'.2.1, fun q hq => by cases hq⟩, fun j w hj => ?_⟩
  by_cases hji : j = i
  · subst hji
    have hl : j < ls.length := by
      have := (List.getElem?_eq_some_iff.mp hj).1
      simpa using this
    rw [List.getElem?_set_self hl] at hj
    cases hj
    exact ⟨h'.2.2 (j, v) List.mem_cons_self, hv⟩
  · rw [List.getElem?_set_ne (Ne.symm hji)] at hj
    have hc := (h.2 j w hj).2
    refine ⟨h'.2.2 (j, w) (List.mem_cons_of_mem _ (List.mem_filter.mpr ⟨kl_mem.mpr hj, ?_⟩)), hc⟩
    simp [hji, hc]
section RULES
variable {X : xC} {k : Mth} {d pc pc' tgt : Nat} {ls : List (Option Value)} {st : List Value} {M M' : List va_E} {r : Option Value} {kc ks : Nat}
theorem ev_iconst {n : Int} {v : Int32} (hd : dI k.2.1 pc (.iconst n) 1 pc' ∧ Int32.ofInt n = v) (kk : Sem X k d pc' ls (.int v :: st) M r M' kc ks) : Sem X k d pc ls st M r M' kc ks := by
  intro p l e R s m args below meth c C H locs cells slots hW hS hc hs la hl
  obtain ⟨hx, hb, hr, hml, hown, hts, hlk, hnm, hbs, hR, hE, hX⟩ := id C
  obtain ⟨⟨hd, rfl⟩, hv⟩ := hd
  exact lv_iconst hx hb hd hv (kk p l e R s m args below meth c C H locs cells slots hW hS hc hs la hl)
theorem ev_bipush {n : Int} {v : Int32} (hd : dI k.2.1 pc (.bipush n) 2 pc' ∧ (Int8.ofInt n).toInt32 = v) (kk : Sem X k d pc' ls (.int v :: st) M r M' kc ks) : Sem X k d pc ls st M r M' kc ks := by
  intro p l e R s m args below meth c C H locs cells slots hW hS hc hs la hl
  obtain ⟨hx, hb, hr, hml, hown, hts, hlk, hnm, hbs, hR, hE, hX⟩ := id C
  obtain ⟨⟨hd, rfl⟩, hv⟩ := hd
  exact lv_bipush hx hb hd hv (kk p l e R s m args below meth c C H locs cells slots hW hS hc hs la hl)
theorem ev_sipush {n : Int} {v : Int32} (hd : dI k.2.1 pc (.sipush n) 3 pc' ∧ (Int16.ofInt n).toInt32 = v) (kk : Sem X k d pc' ls (.int v :: st) M r M' kc ks) : Sem X k d pc ls st M r M' kc ks := by
  intro p l e R s m args below meth c C H locs cells slots hW hS hc hs la hl
  obtain ⟨hx, hb, hr, hml, hown, hts, hlk, hnm, hbs, hR, hE, hX⟩ := id C
  obtain ⟨⟨hd, rfl⟩, hv⟩ := hd
  exact lv_sipush hx hb hd hv (kk p l e R s m args below meth c C H locs cells slots hW hS hc hs la hl)
theorem ev_ldc {idx : Nat} {v : Int32} (hd : dI k.2.1 pc (.ldc idx) 2 pc') (hw : Cond.constant k.1.cls idx v ∈ TG) (kk : Sem X k d pc' ls (.int v :: st) M r M' kc ks) : Sem X k d pc ls st M r M' kc ks := by
  intro p l e R s m args below meth c C H locs cells slots hW hS hc hs la hl
  obtain ⟨hx, hb, hr, hml, hown, hts, hlk, hnm, hbs, hR, hE, hX⟩ := id C
  obtain ⟨hd, rfl⟩ := hd
  exact lv_ldc hx hb hown (hts _ hw) hd (kk p l e R s m args below meth c C H locs cells slots hW hS hc hs la hl)
theorem ev_iload_n {j : Fin 4} {x : Int32} (hd : dI k.2.1 pc (.iload_n j) 1 pc') (h : ls[(j : Nat)]? = some (some (.int x))) (kk : Sem X k d pc' ls (.int x :: st) M r M' kc ks) : Sem X k d pc ls st M r M' kc ks := by
  intro p l e R s m args below meth c C H locs cells slots hW hS hc hs la hl
  obtain ⟨hx, hb, hr, hml, hown, hts, hlk, hnm, hbs, hR, hE, hX⟩ := id C
  obtain ⟨hd, rfl⟩ := hd
  exact lv_iload_n hx hb hd rfl (hl.2 _ _ h).1 (kk p l e R s m args below meth c C H locs cells slots hW hS hc hs la hl)
theorem ev_iload {j : Nat} {x : Int32} (hd : dI k.2.1 pc (.iload j) 2 pc') (h : ls[j]? = some (some (.int x))) (kk : Sem X k d pc' ls (.int x :: st) M r M' kc ks) : Sem X k d pc ls st M r M' kc ks := by
  intro p l e R s m args below meth c C H locs cells slots hW hS hc hs la hl
  obtain ⟨hx, hb, hr, hml, hown, hts, hlk, hnm, hbs, hR, hE, hX⟩ := id C
  obtain ⟨hd, rfl⟩ := hd
  exact lv_iload hx hb hd (hl.2 _ _ h).1 (kk p l e R s m args below meth c C H locs cells slots hW hS hc hs la hl)
theorem ev_aload_n {j : Fin 4} {x : Nat} (hd : dI k.2.1 pc (.aload_n j) 1 pc') (h : ls[(j : Nat)]? = some (some (.ref x))) (kk : Sem X k d pc' ls (.ref x :: st) M r M' kc ks) : Sem X k d pc ls st M r M' kc ks := by
  intro p l e R s m args below meth c C H locs cells slots hW hS hc hs la hl
  obtain ⟨hx, hb, hr, hml, hown, hts, hlk, hnm, hbs, hR, hE, hX⟩ := id C
  obtain ⟨hd, rfl⟩ := hd
  exact lv_aload_n hx hb hd rfl (hl.2 _ _ h).1 (kk p l e R s m args below meth c C H locs cells slots hW hS hc hs la hl)
theorem ev_aload {j : Nat} {x : Nat} (hd : dI k.2.1 pc (.aload j) 2 pc') (h : ls[j]? = some (some (.ref x))) (kk : Sem X k d pc' ls (.ref x :: st) M r M' kc ks) : Sem X k d pc ls st M r M' kc ks := by
  intro p l e R s m args below meth c C H locs cells slots hW hS hc hs la hl
  obtain ⟨hx, hb, hr, hml, hown, hts, hlk, hnm, hbs, hR, hE, hX⟩ := id C
  obtain ⟨hd, rfl⟩ := hd
  exact lv_aload hx hb hd (hl.2 _ _ h).1 (kk p l e R s m args below meth c C H locs cells slots hW hS hc hs la hl)
theorem ev_istore_n {j : Fin 4} {x : Int32} (hd : dI k.2.1 pc (.istore_n j) 1 pc') (hj : (j : Nat) < k.2.2.1) (kk : Sem X k d pc' (ls.set (j : Nat) (some (.int x))) st M r M' kc ks) : Sem X k d pc ls (.int x :: st) M r M' kc ks := by
  intro p l e R s m args below meth c C H locs cells slots hW hS hc hs la hl
  obtain ⟨hx, hb, hr, hml, hown, hts, hlk, hnm, hbs, hR, hE, hX⟩ := id C
  obtain ⟨hd, rfl⟩ := hd
  exact lv_istore_n hx hb hd rfl hl.has hj rfl (fun la' h' => kk p l e R s m args below meth c C H locs cells slots hW hS hc hs la' (hl.set rfl h'))
theorem ev_istore {j : Nat} {x : Int32} (hd : dI k.2.1 pc (.istore j) 2 pc') (hj : j < k.2.2.1) (kk : Sem X k d pc' (ls.set j (some (.int x))) st M r M' kc ks) : Sem X k d pc ls (.int x :: st) M r M' kc ks := by
  intro p l e R s m args below meth c C H locs cells slots hW hS hc hs la hl
  obtain ⟨hx, hb, hr, hml, hown, hts, hlk, hnm, hbs, hR, hE, hX⟩ := id C
  obtain ⟨hd, rfl⟩ := hd
  exact lv_istore hx hb hd hl.has hj rfl (fun la' h' => kk p l e R s m args below meth c C H locs cells slots hW hS hc hs la' (hl.set rfl h'))
theorem ev_astore_n {j : Fin 4} {x : Nat} (hd : dI k.2.1 pc (.astore_n j) 1 pc') (hj : (j : Nat) < k.2.2.1) (kk : Sem X k d pc' (ls.set (j : Nat) (some (.ref x))) st M r M' kc ks) : Sem X k d pc ls (.ref x :: st) M r M' kc ks := by
  intro p l e R s m args below meth c C H locs cells slots hW hS hc hs la hl
  obtain ⟨hx, hb, hr, hml, hown, hts, hlk, hnm, hbs, hR, hE, hX⟩ := id C
  obtain ⟨hd, rfl⟩ := hd
  exact lv_astore_n hx hb hd rfl hl.has hj rfl (fun la' h' => kk p l e R s m args below meth c C H locs cells slots hW hS hc hs la' (hl.set rfl h'))
theorem ev_astore {j : Nat} {x : Nat} (hd : dI k.2.1 pc (.astore j) 2 pc') (hj : j < k.2.2.1) (kk : Sem X k d pc' (ls.set j (some (.ref x))) st M r M' kc ks) : Sem X k d pc ls (.ref x :: st) M r M' kc ks := by
  intro p l e R s m args below meth c C H locs cells slots hW hS hc hs la hl
  obtain ⟨hx, hb, hr, hml, hown, hts, hlk, hnm, hbs, hR, hE, hX⟩ := id C
  obtain ⟨hd, rfl⟩ := hd
  exact lv_astore hx hb hd hl.has hj rfl (fun la' h' => kk p l e R s m args below meth c C H locs cells slots hW hS hc hs la' (hl.set rfl h'))
theorem ev_iinc {j : Nat} {n : Int} {x v : Int32} (hd : dI k.2.1 pc (.iinc j n) 3 pc' ∧ Int32.ofInt n = v) (hj : j < k.2.2.1) (h : ls[j]? = some (some (.int x))) (kk : Sem X k d pc' (ls.set j (some (.int (x + v)))) st M r M' kc ks) : Sem X k d pc ls st M r M' kc ks := by
  intro p l e R s m args below meth c C H locs cells slots hW hS hc hs la hl
  obtain ⟨hx, hb, hr, hml, hown, hts, hlk, hnm, hbs, hR, hE, hX⟩ := id C
  obtain ⟨⟨hd, rfl⟩, hv⟩ := hd
  obtain ⟨q, hq⟩ := List.getElem?_of_mem (kl_mem.mpr h)
  exact lv_iinc hx hb hd hl.has hq (by rw [hv]) hj rfl (fun la' h' => kk p l e R s m args below meth c C H locs cells slots hW hS hc hs la' (hl.set rfl h'))
theorem ev_iadd {x y : Int32} (hd : dI k.2.1 pc .iadd 1 pc') (kk : Sem X k d pc' ls (.int (x + y) :: st) M r M' kc ks) : Sem X k d pc ls (.int y :: .int x :: st) M r M' kc ks := by
  intro p l e R s m args below meth c C H locs cells slots hW hS hc hs la hl
  obtain ⟨hx, hb, hr, hml, hown, hts, hlk, hnm, hbs, hR, hE, hX⟩ := id C
  obtain ⟨hd, rfl⟩ := hd
  exact lv_iadd hx hb hd (kk p l e R s m args below meth c C H locs cells slots hW hS hc hs la hl)
theorem ev_isub {x y : Int32} (hd : dI k.2.1 pc .isub 1 pc') (kk : Sem X k d pc' ls (.int (x - y) :: st) M r M' kc ks) : Sem X k d pc ls (.int y :: .int x :: st) M r M' kc ks := by
  intro p l e R s m args below meth c C H locs cells slots hW hS hc hs la hl
  obtain ⟨hx, hb, hr, hml, hown, hts, hlk, hnm, hbs, hR, hE, hX⟩ := id C
  obtain ⟨hd, rfl⟩ := hd
  exact lv_isub hx hb hd (kk p l e R s m args below meth c C H locs cells slots hW hS hc hs la hl)
theorem ev_imul {x y : Int32} (hd : dI k.2.1 pc .imul 1 pc') (kk : Sem X k d pc' ls (.int (x * y) :: st) M r M' kc ks) : Sem X k d pc ls (.int y :: .int x :: st) M r M' kc ks := by
  intro p l e R s m args below meth c C H locs cells slots hW hS hc hs la hl
  obtain ⟨hx, hb, hr, hml, hown, hts, hlk, hnm, hbs, hR, hE, hX⟩ := id C
  obtain ⟨hd, rfl⟩ := hd
  exact lv_imul hx hb hd (kk p l e R s m args below meth c C H locs cells slots hW hS hc hs la hl)
theorem ev_iand {x y : Int32} (hd : dI k.2.1 pc .iand 1 pc') (kk : Sem X k d pc' ls (.int (x &&& y) :: st) M r M' kc ks) : Sem X k d pc ls (.int y :: .int x :: st) M r M' kc ks := by
  intro p l e R s m args below meth c C H locs cells slots hW hS hc hs la hl
  obtain ⟨hx, hb, hr, hml, hown, hts, hlk, hnm, hbs, hR, hE, hX⟩ := id C
  obtain ⟨hd, rfl⟩ := hd
  exact lv_iand hx hb hd (kk p l e R s m args below meth c C H locs cells slots hW hS hc hs la hl)
theorem ev_ishl {x y : Int32} (hd : dI k.2.1 pc .ishl 1 pc') (kk : Sem X k d pc' ls (.int (x <<< (y &&& 31)) :: st) M r M' kc ks) : Sem X k d pc ls (.int y :: .int x :: st) M r M' kc ks := by
  intro p l e R s m args below meth c C H locs cells slots hW hS hc hs la hl
  obtain ⟨hx, hb, hr, hml, hown, hts, hlk, hnm, hbs, hR, hE, hX⟩ := id C
  obtain ⟨hd, rfl⟩ := hd
  exact lv_ishl hx hb hd (kk p l e R s m args below meth c C H locs cells slots hW hS hc hs la hl)
theorem ev_ishr {x y : Int32} (hd : dI k.2.1 pc .ishr 1 pc') (kk : Sem X k d pc' ls (.int (x >>> (y &&& 31)) :: st) M r M' kc ks) : Sem X k d pc ls (.int y :: .int x :: st) M r M' kc ks := by
  intro p l e R s m args below meth c C H locs cells slots hW hS hc hs la hl
  obtain ⟨hx, hb, hr, hml, hown, hts, hlk, hnm, hbs, hR, hE, hX⟩ := id C
  obtain ⟨hd, rfl⟩ := hd
  exact lv_ishr hx hb hd (kk p l e R s m args below meth c C H locs cells slots hW hS hc hs la hl)
theorem ev_idiv {x y : Int32} (hd : dI k.2.1 pc .idiv 1 pc') (hy : ¬ y = 0) (kk : Sem X k d pc' ls (.int (x / y) :: st) M r M' kc ks) : Sem X k d pc ls (.int y :: .int x :: st) M r M' kc ks := by
  intro p l e R s m args below meth c C H locs cells slots hW hS hc hs la hl
  obtain ⟨hx, hb, hr, hml, hown, hts, hlk, hnm, hbs, hR, hE, hX⟩ := id C
  obtain ⟨hd, rfl⟩ := hd
  exact lv_idiv hx hb hd hy (kk p l e R s m args below meth c C H locs cells slots hW hS hc hs la hl)
theorem ev_irem {x y : Int32} (hd : dI k.2.1 pc .irem 1 pc') (hy : ¬ y = 0) (kk : Sem X k d pc' ls (.int (x - x / y * y) :: st) M r M' kc ks) : Sem X k d pc ls (.int y :: .int x :: st) M r M' kc ks := by
  intro p l e R s m args below meth c C H locs cells slots hW hS hc hs la hl
  obtain ⟨hx, hb, hr, hml, hown, hts, hlk, hnm, hbs, hR, hE, hX⟩ := id C
  obtain ⟨hd, rfl⟩ := hd
  exact lv_irem hx hb hd hy (kk p l e R s m args below meth c C H locs cells slots hW hS hc hs la hl)
theorem ev_iushr {x y : Int32} (hd : dI k.2.1 pc .iushr 1 pc') (kk : Sem X k d pc' ls (.int ((x.toUInt32 >>> (y.toUInt32 &&& Int32.toUInt32 31)).toInt32) :: st) M r M' kc ks) : Sem X k d pc ls (.int y :: .int x :: st) M r M' kc ks := by
  intro p l e R s m args below meth c C H locs cells slots hW hS hc hs la hl
  obtain ⟨hx, hb, hr, hml, hown, hts, hlk, hnm, hbs, hR, hE, hX⟩ := id C
  obtain ⟨hd, rfl⟩ := hd
  exact lv_iushr hx hb hd rfl (kk p l e R s m args below meth c C H locs cells slots hW hS hc hs la hl)
theorem ev_i2b {x : Int32} (hd : dI k.2.1 pc .i2b 1 pc') (kk : Sem X k d pc' ls (.int (x.toInt8.toInt32) :: st) M r M' kc ks) : Sem X k d pc ls (.int x :: st) M r M' kc ks := by
  intro p l e R s m args below meth c C H locs cells slots hW hS hc hs la hl
  obtain ⟨hx, hb, hr, hml, hown, hts, hlk, hnm, hbs, hR, hE, hX⟩ := id C
  obtain ⟨hd, rfl⟩ := hd
  exact lv_i2b hx hb hd rfl (kk p l e R s m args below meth c C H locs cells slots hW hS hc hs la hl)
theorem ev_i2s {x : Int32} (hd : dI k.2.1 pc .i2s 1 pc') (kk : Sem X k d pc' ls (.int (x.toInt16.toInt32) :: st) M r M' kc ks) : Sem X k d pc ls (.int x :: st) M r M' kc ks := by
  intro p l e R s m args below meth c C H locs cells slots hW hS hc hs la hl
  obtain ⟨hx, hb, hr, hml, hown, hts, hlk, hnm, hbs, hR, hE, hX⟩ := id C
  obtain ⟨hd, rfl⟩ := hd
  exact lv_i2s hx hb hd rfl (kk p l e R s m args below meth c C H locs cells slots hW hS hc hs la hl)
theorem ev_i2c {x : Int32} (hd : dI k.2.1 pc .i2c 1 pc') (kk : Sem X k d pc' ls (.int ((x.toUInt32 % 65536).toInt32) :: st) M r M' kc ks) : Sem X k d pc ls (.int x :: st) M r M' kc ks := by
  intro p l e R s m args below meth c C H locs cells slots hW hS hc hs la hl
  obtain ⟨hx, hb, hr, hml, hown, hts, hlk, hnm, hbs, hR, hE, hX⟩ := id C
  obtain ⟨hd, rfl⟩ := hd
  exact lv_i2c hx hb hd rfl (kk p l e R s m args below meth c C H locs cells slots hW hS hc hs la hl)
theorem ev_dup {a : Value} (hd : dI k.2.1 pc .dup 1 pc') (h1 : a.category = 1) (kk : Sem X k d pc' ls (a :: a :: st) M r M' kc ks) : Sem X k d pc ls (a :: st) M r M' kc ks := by
  intro p l e R s m args below meth c C H locs cells slots hW hS hc hs la hl
  obtain ⟨hx, hb, hr, hml, hown, hts, hlk, hnm, hbs, hR, hE, hX⟩ := id C
  obtain ⟨hd, rfl⟩ := hd
  exact lv_dup hx hb hd h1 (kk p l e R s m args below meth c C H locs cells slots hW hS hc hs la hl)
theorem ev_dup_x1 {a b : Value} (hd : dI k.2.1 pc .dup_x1 1 pc') (h1 : a.category = 1) (h2 : b.category = 1) (kk : Sem X k d pc' ls (a :: b :: a :: st) M r M' kc ks) : Sem X k d pc ls (a :: b :: st) M r M' kc ks := by
  intro p l e R s m args below meth c C H locs cells slots hW hS hc hs la hl
  obtain ⟨hx, hb, hr, hml, hown, hts, hlk, hnm, hbs, hR, hE, hX⟩ := id C
  obtain ⟨hd, rfl⟩ := hd
  exact lv_dup_x1 hx hb hd h1 h2 (kk p l e R s m args below meth c C H locs cells slots hW hS hc hs la hl)
theorem ev_dup2 {a b : Value} (hd : dI k.2.1 pc .dup2 1 pc') (h1 : a.category = 1) (h2 : b.category = 1) (kk : Sem X k d pc' ls (a :: b :: a :: b :: st) M r M' kc ks) : Sem X k d pc ls (a :: b :: st) M r M' kc ks := by
  intro p l e R s m args below meth c C H locs cells slots hW hS hc hs la hl
  obtain ⟨hx, hb, hr, hml, hown, hts, hlk, hnm, hbs, hR, hE, hX⟩ := id C
  obtain ⟨hd, rfl⟩ := hd
  exact lv_dup2_11 hx hb hd h1 h2 (kk p l e R s m args below meth c C H locs cells slots hW hS hc hs la hl)
theorem ev_pop {a : Value} (hd : dI k.2.1 pc .pop 1 pc') (h1 : a.category = 1) (kk : Sem X k d pc' ls (st) M r M' kc ks) : Sem X k d pc ls (a :: st) M r M' kc ks := by
  intro p l e R s m args below meth c C H locs cells slots hW hS hc hs la hl
  obtain ⟨hx, hb, hr, hml, hown, hts, hlk, hnm, hbs, hR, hE, hX⟩ := id C
  obtain ⟨hd, rfl⟩ := hd
  exact lv_pop hx hb hd h1 (kk p l e R s m args below meth c C H locs cells slots hW hS hc hs la hl)
theorem ev_icmp_eq {x y : Int32} {off : Int} (hd : dJ k.2.1 pc (.if_icmp .eq off) off pc' tgt) (kt : x = y → Sem X k d tgt ls st M r M' kc ks) (kf : ¬ x = y → Sem X k d pc' ls st M r M' kc ks) : Sem X k d pc ls (.int y :: .int x :: st) M r M' kc ks := by
  intro p l e R s m args below meth c C H locs cells slots hW hS hc hs la hl
  obtain ⟨hx, hb, hr, hml, hown, hts, hlk, hnm, hbs, hR, hE, hX⟩ := id C
  obtain ⟨hd, rfl, ht⟩ := hd
  exact lv_icmp_eq hx hb hd ht (fun h => kt h p l e R s m args below meth c C H locs cells slots hW hS hc hs la hl) (fun h => kf h p l e R s m args below meth c C H locs cells slots hW hS hc hs la hl)
theorem ev_if_eq {x : Int32} {off : Int} (hd : dJ k.2.1 pc (.ifCond .eq off) off pc' tgt) (kt : x = 0 → Sem X k d tgt ls st M r M' kc ks) (kf : ¬ x = 0 → Sem X k d pc' ls st M r M' kc ks) : Sem X k d pc ls (.int x :: st) M r M' kc ks := by
  intro p l e R s m args below meth c C H locs cells slots hW hS hc hs la hl
  obtain ⟨hx, hb, hr, hml, hown, hts, hlk, hnm, hbs, hR, hE, hX⟩ := id C
  obtain ⟨hd, rfl, ht⟩ := hd
  exact lv_if_eq hx hb hd ht (fun h => kt h p l e R s m args below meth c C H locs cells slots hW hS hc hs la hl) (fun h => kf h p l e R s m args below meth c C H locs cells slots hW hS hc hs la hl)
theorem ev_icmp_ne {x y : Int32} {off : Int} (hd : dJ k.2.1 pc (.if_icmp .ne off) off pc' tgt) (kt : ¬ x = y → Sem X k d tgt ls st M r M' kc ks) (kf : x = y → Sem X k d pc' ls st M r M' kc ks) : Sem X k d pc ls (.int y :: .int x :: st) M r M' kc ks := by
  intro p l e R s m args below meth c C H locs cells slots hW hS hc hs la hl
  obtain ⟨hx, hb, hr, hml, hown, hts, hlk, hnm, hbs, hR, hE, hX⟩ := id C
  obtain ⟨hd, rfl, ht⟩ := hd
  exact lv_icmp_ne hx hb hd ht (fun h => kt h p l e R s m args below meth c C H locs cells slots hW hS hc hs la hl) (fun h => kf h p l e R s m args below meth c C H locs cells slots hW hS hc hs la hl)
theorem ev_if_ne {x : Int32} {off : Int} (hd : dJ k.2.1 pc (.ifCond .ne off) off pc' tgt) (kt : ¬ x = 0 → Sem X k d tgt ls st M r M' kc ks) (kf : x = 0 → Sem X k d pc' ls st M r M' kc ks) : Sem X k d pc ls (.int x :: st) M r M' kc ks := by
  intro p l e R s m args below meth c C H locs cells slots hW hS hc hs la hl
  obtain ⟨hx, hb, hr, hml, hown, hts, hlk, hnm, hbs, hR, hE, hX⟩ := id C
  obtain ⟨hd, rfl, ht⟩ := hd
  exact lv_if_ne hx hb hd ht (fun h => kt h p l e R s m args below meth c C H locs cells slots hW hS hc hs la hl) (fun h => kf h p l e R s m args below meth c C H locs cells slots hW hS hc hs la hl)
theorem ev_icmp_lt {x y : Int32} {off : Int} (hd : dJ k.2.1 pc (.if_icmp .lt off) off pc' tgt) (kt : x < y → Sem X k d tgt ls st M r M' kc ks) (kf : ¬ x < y → Sem X k d pc' ls st M r M' kc ks) : Sem X k d pc ls (.int y :: .int x :: st) M r M' kc ks := by
  intro p l e R s m args below meth c C H locs cells slots hW hS hc hs la hl
  obtain ⟨hx, hb, hr, hml, hown, hts, hlk, hnm, hbs, hR, hE, hX⟩ := id C
  obtain ⟨hd, rfl, ht⟩ := hd
  exact lv_icmp_lt hx hb hd ht (fun h => kt h p l e R s m args below meth c C H locs cells slots hW hS hc hs la hl) (fun h => kf h p l e R s m args below meth c C H locs cells slots hW hS hc hs la hl)
theorem ev_if_lt {x : Int32} {off : Int} (hd : dJ k.2.1 pc (.ifCond .lt off) off pc' tgt) (kt : x < 0 → Sem X k d tgt ls st M r M' kc ks) (kf : ¬ x < 0 → Sem X k d pc' ls st M r M' kc ks) : Sem X k d pc ls (.int x :: st) M r M' kc ks := by
  intro p l e R s m args below meth c C H locs cells slots hW hS hc hs la hl
  obtain ⟨hx, hb, hr, hml, hown, hts, hlk, hnm, hbs, hR, hE, hX⟩ := id C
  obtain ⟨hd, rfl, ht⟩ := hd
  exact lv_if_lt hx hb hd ht (fun h => kt h p l e R s m args below meth c C H locs cells slots hW hS hc hs la hl) (fun h => kf h p l e R s m args below meth c C H locs cells slots hW hS hc hs la hl)
theorem ev_icmp_ge {x y : Int32} {off : Int} (hd : dJ k.2.1 pc (.if_icmp .ge off) off pc' tgt) (kt : y ≤ x → Sem X k d tgt ls st M r M' kc ks) (kf : ¬ y ≤ x → Sem X k d pc' ls st M r M' kc ks) : Sem X k d pc ls (.int y :: .int x :: st) M r M' kc ks := by
  intro p l e R s m args below meth c C H locs cells slots hW hS hc hs la hl
  obtain ⟨hx, hb, hr, hml, hown, hts, hlk, hnm, hbs, hR, hE, hX⟩ := id C
  obtain ⟨hd, rfl, ht⟩ := hd
  exact lv_icmp_ge hx hb hd ht (fun h => kt h p l e R s m args below meth c C H locs cells slots hW hS hc hs la hl) (fun h => kf h p l e R s m args below meth c C H locs cells slots hW hS hc hs la hl)
theorem ev_if_ge {x : Int32} {off : Int} (hd : dJ k.2.1 pc (.ifCond .ge off) off pc' tgt) (kt : 0 ≤ x → Sem X k d tgt ls st M r M' kc ks) (kf : ¬ 0 ≤ x → Sem X k d pc' ls st M r M' kc ks) : Sem X k d pc ls (.int x :: st) M r M' kc ks := by
  intro p l e R s m args below meth c C H locs cells slots hW hS hc hs la hl
  obtain ⟨hx, hb, hr, hml, hown, hts, hlk, hnm, hbs, hR, hE, hX⟩ := id C
  obtain ⟨hd, rfl, ht⟩ := hd
  exact lv_if_ge hx hb hd ht (fun h => kt h p l e R s m args below meth c C H locs cells slots hW hS hc hs la hl) (fun h => kf h p l e R s m args below meth c C H locs cells slots hW hS hc hs la hl)
theorem ev_icmp_gt {x y : Int32} {off : Int} (hd : dJ k.2.1 pc (.if_icmp .gt off) off pc' tgt) (kt : y < x → Sem X k d tgt ls st M r M' kc ks) (kf : ¬ y < x → Sem X k d pc' ls st M r M' kc ks) : Sem X k d pc ls (.int y :: .int x :: st) M r M' kc ks := by
  intro p l e R s m args below meth c C H locs cells slots hW hS hc hs la hl
  obtain ⟨hx, hb, hr, hml, hown, hts, hlk, hnm, hbs, hR, hE, hX⟩ := id C
  obtain ⟨hd, rfl, ht⟩ := hd
  exact lv_icmp_gt hx hb hd ht (fun h => kt h p l e R s m args below meth c C H locs cells slots hW hS hc hs la hl) (fun h => kf h p l e R s m args below meth c C H locs cells slots hW hS hc hs la hl)
theorem ev_if_gt {x : Int32} {off : Int} (hd : dJ k.2.1 pc (.ifCond .gt off) off pc' tgt) (kt : 0 < x → Sem X k d tgt ls st M r M' kc ks) (kf : ¬ 0 < x → Sem X k d pc' ls st M r M' kc ks) : Sem X k d pc ls (.int x :: st) M r M' kc ks := by
  intro p l e R s m args below meth c C H locs cells slots hW hS hc hs la hl
  obtain ⟨hx, hb, hr, hml, hown, hts, hlk, hnm, hbs, hR, hE, hX⟩ := id C
  obtain ⟨hd, rfl, ht⟩ := hd
  exact lv_if_gt hx hb hd ht (fun h => kt h p l e R s m args below meth c C H locs cells slots hW hS hc hs la hl) (fun h => kf h p l e R s m args below meth c C H locs cells slots hW hS hc hs la hl)
theorem ev_icmp_le {x y : Int32} {off : Int} (hd : dJ k.2.1 pc (.if_icmp .le off) off pc' tgt) (kt : x ≤ y → Sem X k d tgt ls st M r M' kc ks) (kf : ¬ x ≤ y → Sem X k d pc' ls st M r M' kc ks) : Sem X k d pc ls (.int y :: .int x :: st) M r M' kc ks := by
  intro p l e R s m args below meth c C H locs cells slots hW hS hc hs la hl
  obtain ⟨hx, hb, hr, hml, hown, hts, hlk, hnm, hbs, hR, hE, hX⟩ := id C
  obtain ⟨hd, rfl, ht⟩ := hd
  exact lv_icmp_le hx hb hd ht (fun h => kt h p l e R s m args below meth c C H locs cells slots hW hS hc hs la hl) (fun h => kf h p l e R s m args below meth c C H locs cells slots hW hS hc hs la hl)
theorem ev_if_le {x : Int32} {off : Int} (hd : dJ k.2.1 pc (.ifCond .le off) off pc' tgt) (kt : x ≤ 0 → Sem X k d tgt ls st M r M' kc ks) (kf : ¬ x ≤ 0 → Sem X k d pc' ls st M r M' kc ks) : Sem X k d pc ls (.int x :: st) M r M' kc ks := by
  intro p l e R s m args below meth c C H locs cells slots hW hS hc hs la hl
  obtain ⟨hx, hb, hr, hml, hown, hts, hlk, hnm, hbs, hR, hE, hX⟩ := id C
  obtain ⟨hd, rfl, ht⟩ := hd
  exact lv_if_le hx hb hd ht (fun h => kt h p l e R s m args below meth c C H locs cells slots hW hS hc hs la hl) (fun h => kf h p l e R s m args below meth c C H locs cells slots hW hS hc hs la hl)
theorem ev_goto {off : Int} (hd : dJ k.2.1 pc (.goto off) off pc' tgt) (kk : Sem X k d tgt ls st M r M' kc ks) : Sem X k d pc ls st M r M' kc ks := by
  intro p l e R s m args below meth c C H locs cells slots hW hS hc hs la hl
  obtain ⟨hx, hb, hr, hml, hown, hts, hlk, hnm, hbs, hR, hE, hX⟩ := id C
  obtain ⟨hd, rfl, ht⟩ := hd
  exact lv_goto hx hb hd ht (kk p l e R s m args below meth c C H locs cells slots hW hS hc hs la hl)
theorem ev_table_in {dflt lo hi : Int} {offs : Array Int} {len : Nat} {x : Int32} {off : Int} (hd : decode k.2.1 pc = .ok (.tableswitch dflt lo hi offs, len)) (h1 : ¬ x.toInt < lo) (h2 : ¬ hi < x.toInt) (ho : offs[(x.toInt - lo).toNat]? = some off) (ht : (pc : Int) + off = (tgt : Int)) (kk : Sem X k d tgt ls st M r M' kc ks) : Sem X k d pc ls (.int x :: st) M r M' kc ks := by
  intro p l e R s m args below meth c C H locs cells slots hW hS hc hs la hl
  obtain ⟨hx, hb, hr, hml, hown, hts, hlk, hnm, hbs, hR, hE, hX⟩ := id C
  exact lv_tableIn hx hb hd h1 h2 ho ht (kk p l e R s m args below meth c C H locs cells slots hW hS hc hs la hl)
theorem ev_table_out {dflt lo hi : Int} {offs : Array Int} {len : Nat} {x : Int32} (hd : decode k.2.1 pc = .ok (.tableswitch dflt lo hi offs, len)) (h : x.toInt < lo ∨ hi < x.toInt) (ht : (pc : Int) + dflt = (tgt : Int)) (kk : Sem X k d tgt ls st M r M' kc ks) : Sem X k d pc ls (.int x :: st) M r M' kc ks := by
  intro p l e R s m args below meth c C H locs cells slots hW hS hc hs la hl
  obtain ⟨hx, hb, hr, hml, hown, hts, hlk, hnm, hbs, hR, hE, hX⟩ := id C
  exact lv_tableOut hx hb hd h ht (kk p l e R s m args below meth c C H locs cells slots hW hS hc hs la hl)
theorem ev_lookup {dflt : Int} {ps : Array (Int × Int)} {len : Nat} {x : Int32} {off : Int} (hd : decode k.2.1 pc = .ok (.lookupswitch dflt ps, len)) (hp : (ps.toList.zip (ps.toList.drop 1)).all (fun (a, next) => a.1 < next.1) = true) (ho : Op.lookupswitch.offset ps.toList dflt x.toInt = off) (ht : (pc : Int) + off = (tgt : Int)) (kk : Sem X k d tgt ls st M r M' kc ks) : Sem X k d pc ls (.int x :: st) M r M' kc ks := by
  intro p l e R s m args below meth c C H locs cells slots hW hS hc hs la hl
  obtain ⟨hx, hb, hr, hml, hown, hts, hlk, hnm, hbs, hR, hE, hX⟩ := id C
  exact lv_lookup hx hb hd hp ho ht (kk p l e R s m args below meth c C H locs cells slots hW hS hc hs la hl)
theorem ev_ireturn {v : Int32} {ty : FieldType} (hd : decode k.2.1 pc = .ok (.ireturn, 1)) (ht : k.2.2.2 = some ty) (hn : narrow ty (.int v) = .int v) : Sem X k d pc ls [.int v] M (some (.int v)) M 0 0 := by
  intro p l e R s m args below meth c C H locs cells slots hW hS hc hs la hl
  obtain ⟨hx, hb, hr, hml, hown, hts, hlk, hnm, hbs, hR, hE, hX⟩ := id C
  exact W.zret hx hb (hr.trans ht) hn (fun t ht hWt => ⟨rfl, by rw [ht]; exact hW, hS.F ht⟩) hS.2.2 hd hlk
theorem ev_areturn {a : Nat} {nm : String} (hd : decode k.2.1 pc = .ok (.areturn, 1)) (ht : k.2.2.2 = some (.object nm)) : Sem X k d pc ls [.ref a] M (some (.ref a)) M 0 0 := by
  intro p l e R s m args below meth c C H locs cells slots hW hS hc hs la hl
  obtain ⟨hx, hb, hr, hml, hown, hts, hlk, hnm, hbs, hR, hE, hX⟩ := id C
  exact W.aret hx hb (hr.trans ht) (Or.inl ⟨_, rfl⟩) (Or.inr ⟨_, rfl⟩) (fun t ht hWt => ⟨rfl, by rw [ht]; exact hW, hS.F ht⟩) hS.2.2 hd hlk
theorem ev_return (hd : decode k.2.1 pc = .ok (.return_, 1)) (ht : k.2.2.2 = none) : Sem X k d pc ls [] M none M 0 0 := by
  intro p l e R s m args below meth c C H locs cells slots hW hS hc hs la hl
  obtain ⟨hx, hb, hr, hml, hown, hts, hlk, hnm, hbs, hR, hE, hX⟩ := id C
  exact W.vret hx hb (hr.trans ht) (fun t ht hWt => ⟨rfl, by rw [ht]; exact hW, hS.F ht⟩) hS.2.2 hd hlk
theorem Sem.eq {r2 : Option Value} {M2 : List va_E} (h : Sem X k d pc ls st M r M' kc ks) (hr : r = r2) (hM : M' = M2) : Sem X k d pc ls st M r2 M2 kc ks := by
  subst hr; subst hM; exact h
end RULES
end
section
theorem i_L : ∀ w ∈ u_ws R_L F_L 2, w ∈ tables_1 ∧ goodWord w = true := by decide +kernel
theorem i_C : ∀ w ∈ u_ws R_C F_C 7, w ∈ tables_1 ∧ goodWord w = true := by decide +kernel
theorem i_H : ∀ w ∈ u_ws R_H F_H 5, w ∈ tables_1 ∧ goodWord w = true := by decide +kernel
theorem i_T : ∀ w ∈ u_ws R_T F_T 3, w ∈ tables_1 ∧ goodWord w = true := by decide +kernel
theorem i_P : ∀ w ∈ u_ws R_P F_P 6, w ∈ tables_1 ∧ goodWord w = true := by decide +kernel
theorem i_S : ∀ w ∈ u_ws R_S F_S 10, w ∈ tables_1 ∧ goodWord w = true := by decide +kernel
theorem i_M : ∀ w ∈ u_ws R_M F_M 16, w ∈ tables_1 ∧ goodWord w = true := by decide +kernel
theorem TG_of {w : Cond} (h : w ∈ tables_1 ∧ goodWord w = true) : w ∈ TG := List.mem_filter.mpr ⟨List.mem_append_right _ h.1, h.2⟩
theorem i_cls (ci : Nat) (q : vw_C) (h : cls[ci]? = some q) : ∀ w ∈ u_ws q.1 q.2.1 q.2.2, w ∈ TG := by
  match ci, h with
  | 0, h => cases h; exact fun w hw => TG_of (i_L w hw)
  | 1, h => cases h; exact fun w hw => TG_of (i_C w hw)
  | 2, h => cases h; exact fun w hw => TG_of (i_H w hw)
  | 3, h => cases h; exact fun w hw => TG_of (i_T w hw)
  | 4, h => cases h; exact fun w hw => TG_of (i_P w hw)
  | 5, h => cases h; exact fun w hw => TG_of (i_S w hw)
  | 6, h => cases h; exact fun w hw => TG_of (i_M w hw)
  | i + 7, h => simp [cls] at h
theorem t_cls (ci : Nat) (q : vw_C) (h : cls[ci]? = some q) : ∀ k, k < q.2.2 → parseFieldDescriptor (q.2.1 k).2.2.1 = some (clsT ci k) := by
  match ci, h with
  | 0, h => cases h; exact ft_L_ok
  | 1, h => cases h; exact ft_C_ok
  | 2, h => cases h; exact ft_H_ok
  | 3, h => cases h; exact ft_T_ok
  | 4, h => cases h; exact ft_P_ok
  | 5, h => cases h; exact ft_S_ok
  | 6, h => cases h; exact ft_M_ok
  | i + 7, h => simp [cls] at h
theorem n_cls (ci : Nat) (q : vw_C) (h : cls[ci]? = some q) : ∀ a, a < q.2.2 → ∀ b, b < q.2.2 → a ≠ b → (q.2.1 a).2.1 ≠ (q.2.1 b).2.1 := by
  match ci, h with
  | 0, h => cases h; exact n_L
  | 1, h => cases h; exact n_C
  | 2, h => cases h; exact n_H
  | 3, h => cases h; exact n_T
  | 4, h => cases h; exact n_P
  | 5, h => cases h; exact n_S
  | 6, h => cases h; exact n_M
  | i + 7, h => simp [cls] at h
def FLk (own : String) (idx ci j : Nat) : Prop := ∃ q : vw_C, cls[ci]? = some q ∧ j < q.2.2 ∧ (q.2.1 j).1 = q.1 ∧ Cond.fieldLink own idx q.1 (q.2.1 j).2.1 (q.2.1 j).2.2.1 ∈ TG
def FinK (ci j : Nat) (b : Bool) : Prop := ∃ q : vw_C, cls[ci]? = some q ∧ (q.2.1 j).2.2.2 = b
theorem Wd.st {X : xC} {M : List va_E} {H H1 : Heap} {c0 : Nat} {e1 : va_E} (hW : Wd X M H) (hP : va_P (xD X) cls ((toW (xB X) M).set c0 (xB X + c0, e1)) H1) (hz : H1.size = H.size) : Wd X (M.set c0 e1) H1 := by
  rw [toW_set] at hP
  exact ⟨hP, by rw [hz, hW.2, List.length_set]⟩
theorem Wd.push {X : xC} {M : List va_E} {H H1 : Heap} {e1 : va_E} (hW : Wd X M H) (hk : ∀ q, q < H.size → H1[q]? = H[q]?) (hz : H1.size = H.size + 1) (he : va_at (xD X) cls (H.size, e1) H1) : Wd X (M ++ [e1]) H1 := by
  refine ⟨?_, by rw [hz, hW.2, List.length_append, List.length_singleton, Nat.add_assoc]⟩
  rw [← toW_push]
  refine (hW.1.kept (fun i q hq => hk q.1 (hW.1 i q hq).lt)).app (fun i q hq => ?_)
  have hz : i < 1 := (List.getElem?_eq_some_iff.mp hq).1
  rw [show i = 0 by omega] at hq
  cases hq
  rw [← hW.2]
  exact he
section MEM
variable {X : xC} {k : Mth} {d pc pc' tgt : Nat} {ls : List (Option Value)} {st : List Value} {M M' : List va_E} {r : Option Value} {kc ks : Nat}
theorem ev_get {idx c0 ci j : Nat} {fs : List Value} {v : Value} (hd : dI k.2.1 pc (.getfield idx) 3 pc') (hf : FLk k.1.cls idx ci j) (hM : M[c0]? = some (.inr (ci, fs))) (hv : fs[j]? = some v) (kk : Sem X k d pc' ls (v :: st) M r M' kc ks) : Sem X k d pc ls (.ref (xB X + c0) :: st) M r M' kc ks := by
  intro p l e R s m args below meth c C H locs cells slots hW hS hc hs la hl
  obtain ⟨hx, hb, hr, hml, hown, hts, hlk, hnm, hbs, hR, hE, hX⟩ := id C
  obtain ⟨hd, rfl⟩ := hd
  obtain ⟨⟨Cn, T, N⟩, h1, h2, h3, h4⟩ := hf
  exact va_get hx hb hts (i_cls ci _ h1) hown hE.1 hW.1 c0 (toW_get hM) h1 j h2 (hts _ h4) (fun x h => by rw [h3] at h; exact h) hv hd (kk p l e R s m args below meth c C H locs cells slots hW hS hc hs la hl)
theorem ev_put {idx c0 ci j : Nat} {fs : List Value} {v : Value} (hd : dI k.2.1 pc (.putfield idx) 3 pc') (hf : FLk k.1.cls idx ci j) (hfin : FinK ci j false) (hM : M[c0]? = some (.inr (ci, fs))) (hn : narrow (clsT ci j) v = v) (hfit : fits (clsT ci j) v = true) (hlf : j < fs.length) (kk : Sem X k d pc' ls st (M.set c0 (.inr (ci, fs.set j v))) r M' kc ks) : Sem X k d pc ls (v :: .ref (xB X + c0) :: st) M r M' kc ks := by
  intro p l e R s m args below meth c C H locs cells slots hW hS hc hs la hl
  obtain ⟨hx, hb, hr, hml, hown, hts, hlk, hnm, hbs, hR, hE, hX⟩ := id C
  obtain ⟨hd, rfl⟩ := hd
  obtain ⟨⟨Cn, T, N⟩, h1, h2, h3, h4⟩ := hf
  obtain ⟨q', h5, h6⟩ := hfin
  cases h1.symm.trans h5
  have hap := va_apart (own := k.1.cls) hts (i_cls ci _ h1) (clsT ci) (t_cls ci _ h1) (n_cls ci _ h1) hE.1 h1
  obtain ⟨rr, g1, cell, q1, q2, q3, q4⟩ := hW.1 c0 _ (toW_get hM)
  have hrr : rr = (Cn, T, N) := Option.some.inj (g1.symm.trans h1)
  subst hrr
  obtain ⟨hSl, hfc, kC, hkC, hkind⟩ := hE.1.1 ci _ h1
  obtain ⟨cf, kf, fi, f, hi, hsl⟩ := hSl j h2
  have hlay := hts _ (i_cls ci _ h1 _ (u_in_lay h2))
  unfold u_lay at hlay
  rw [if_neg (by rw [h6]; decide)] at hlay
  have hst := (u_facts hfc hkC (u_lays hts (i_cls ci _ h1) h2) hi).1
  have h7 := u_store hfc hkC hkind hlay hi (t_cls ci _ h1 j h2) hn hfit
  refine W.putK hx hb (f := f) ⟨hown, hts _ h4, ⟨_, _, _, by rw [← h3]; exact hi⟩, hst⟩ (by rw [q2]; exact h7) q1 q3 (by rw [hsl]; exact k2_hasslot (q4 j h2)) rfl rfl hd fun H' e1 e2 e3 => ?_
  rw [hsl] at e1 ⊢
  have hP' := va_P.set hW.1 (toW_D (b := xB X)) (toW_get hM) (e := .inr (ci, fs.set j v)) ⟨_, h1, t_OB.to (V := updV (vp_V fs) j v) ⟨_, e1, q2, q3, t_set q4 hap h2 v⟩ (fun i _ => vp_updV_set hlf v i)⟩ e3
  exact kk p l e R s m args below meth c C H' _ cells slots (hW.st hP' e2) (hS.put e2 e3 (Nat.le_add_right _ _)) hc hs la hl
theorem ev_putF {idx c0 ci j : Nat} {fs : List Value} {v : Value} (hd : dI k.2.1 pc (.putfield idx) 3 pc') (hf : FLk k.1.cls idx ci j) (hfin : FinK ci j true) (hin : k.1.name = "<init>") (hcl : (cls[ci]?).map (fun q => q.1) = some k.1.cls) (hM : M[c0]? = some (.inr (ci, fs))) (hn : narrow (clsT ci j) v = v) (hfit : fits (clsT ci j) v = true) (hlf : j < fs.length) (kk : Sem X k d pc' ls st (M.set c0 (.inr (ci, fs.set j v))) r M' kc ks) : Sem X k d pc ls (v :: .ref (xB X + c0) :: st) M r M' kc ks := by
  intro p l e R s m args below meth c C H locs cells slots hW hS hc hs la hl
  obtain ⟨hx, hb, hr, hml, hown, hts, hlk, hnm, hbs, hR, hE, hX⟩ := id C
  obtain ⟨hd, rfl⟩ := hd
  obtain ⟨⟨Cn, T, N⟩, h1, h2, h3, h4⟩ := hf
  obtain ⟨q', h5, h6⟩ := hfin
  cases h1.symm.trans h5
  have hap := va_apart (own := k.1.cls) hts (i_cls ci _ h1) (clsT ci) (t_cls ci _ h1) (n_cls ci _ h1) hE.1 h1
  obtain ⟨rr, g1, cell, q1, q2, q3, q4⟩ := hW.1 c0 _ (toW_get hM)
  have hrr : rr = (Cn, T, N) := Option.some.inj (g1.symm.trans h1)
  subst hrr
  obtain ⟨hSl, hfc, kC, hkC, hkind⟩ := hE.1.1 ci _ h1
  obtain ⟨cf, kf, fi, f, hi, hsl⟩ := hSl j h2
  have hlay := hts _ (i_cls ci _ h1 _ (u_in_lay h2))
  unfold u_lay at hlay
  rw [if_pos h6] at hlay
  have hst := (u_facts hfc hkC (u_lays hts (i_cls ci _ h1) h2) hi).1
  have hdecl : (T j).1 = k.1.cls := by rw [h1] at hcl; rw [h3]; exact Option.some.inj hcl
  have hcf : m.cls = cf := by
    obtain ⟨_, _, c', _, _, _, -, -, hf', -, -, -, hown2, -⟩ := Cond.laysFinal_spec hlay
    have e1 : c' = cf := by have := hi.symm.trans hf'; simp at this; exact this.1.symm
    rw [hdecl] at hown2
    rw [← e1]; exact Option.some.inj (hown.symm.trans hown2)
  have h7 := u_fits hfc hkC hkind (Or.inr hlay) hi (t_cls ci _ h1 j h2) hn hfit
  refine W.putFinK hx hb hown (hts _ h4) (by rw [← h3]; exact hi) hst hcf (hnm.trans hin) (by rw [q2]; exact h7) q1 q3 (by rw [hsl]; exact k2_hasslot (q4 j h2)) rfl rfl hd fun H' e1 e2 e3 => ?_
  rw [hsl] at e1 ⊢
  have hP' := va_P.set hW.1 (toW_D (b := xB X)) (toW_get hM) (e := .inr (ci, fs.set j v)) ⟨_, h1, t_OB.to (V := updV (vp_V fs) j v) ⟨_, e1, q2, q3, t_set q4 hap h2 v⟩ (fun i _ => vp_updV_set hlf v i)⟩ e3
  exact kk p l e R s m args below meth c C H' _ cells slots (hW.st hP' e2) (hS.put e2 e3 (Nat.le_add_right _ _)) hc hs la hl
theorem ev_iald {c0 n : Nat} {f : Nat → Int32} {i : Int32} (hd : dI k.2.1 pc .iaload 1 pc') (hM : M[c0]? = some (.inl (xI X, n, .inl f))) (hi : vp_in i n) (kk : Sem X k d pc' ls (.int (f i.toNatClampNeg) :: st) M r M' kc ks) : Sem X k d pc ls (.int i :: .ref (xB X + c0) :: st) M r M' kc ks := by
  intro p l e R s m args below meth c C H locs cells slots hW hS hc hs la hl
  obtain ⟨hx, hb, hr, hml, hown, hts, hlk, hnm, hbs, hR, hE, hX⟩ := id C
  obtain ⟨hd, rfl⟩ := hd
  exact va_iald hx hb hE.1 hW.1 c0 0 (toW_get hM) rfl hi hd (kk p l e R s m args below meth c C H locs cells slots hW hS hc hs la hl)
theorem ev_iast {c0 n : Nat} {f : Nat → Int32} {i x : Int32} (hd : dI k.2.1 pc .iastore 1 pc') (hM : M[c0]? = some (.inl (xI X, n, .inl f))) (hi : vp_in i n) (kk : Sem X k d pc' ls st (M.set c0 (.inl (xI X, n, .inl (upd f i.toNatClampNeg x)))) r M' kc ks) : Sem X k d pc ls (.int x :: .int i :: .ref (xB X + c0) :: st) M r M' kc ks := by
  intro p l e R s m args below meth c C H locs cells slots hW hS hc hs la hl
  obtain ⟨hx, hb, hr, hml, hown, hts, hlk, hnm, hbs, hR, hE, hX⟩ := id C
  obtain ⟨hd, rfl⟩ := hd
  refine W.iast hx hb (hW.1 c0 _ (toW_get hM)) ((hE.1.2 0 _ rfl).1 n (fun j => .int (f j))) (fun q => by cases q) (by show ¬ (i < 0 ∨ (arrV _ _ _).slots.size ≤ _); rw [arrV_size]; exact hi) rfl rfl hd fun H1 e z oq => ?_
  have hP' := va_P.set hW.1 (toW_D (b := xB X)) (toW_get hM) (e := .inl (xI X, n, .inl (upd f i.toNatClampNeg x))) (H1 := H1) (by
    show H1[xB X + c0]? = some (vp_cell _ _)
    rw [e]
    rw [vp_cell_i, vp_cell_i, arrV_store]
    congr 2
    funext q
    by_cases hq : q = i.toNatClampNeg
    · subst hq
      simp [updV, upd]
    · simp [updV, upd, hq]) oq
  exact kk p l _ R s m args below meth c C H1 _ cells slots (hW.st hP' z) (hS.put z oq (Nat.le_add_right _ _)) hc hs la hl
theorem ev_aald {c0 t n a : Nat} {cA : ClassId} {C : String} {f : Nat → Option Nat} {i : Int32} (hd : dI k.2.1 pc .aaload 1 pc') (hM : M[c0]? = some (.inl (cA, n, .inr (.inr (.inr (.inr f)))))) (ht : (xTys X)[t]? = some (cA, .object C)) (hi : vp_in i n) (hf : f i.toNatClampNeg = some a) (kk : Sem X k d pc' ls (.ref a :: st) M r M' kc ks) : Sem X k d pc ls (.int i :: .ref (xB X + c0) :: st) M r M' kc ks := by
  intro p l e R s m args below meth c C H locs cells slots hW hS hc hs la hl
  obtain ⟨hx, hb, hr, hml, hown, hts, hlk, hnm, hbs, hR, hE, hX⟩ := id C
  obtain ⟨hd, rfl⟩ := hd
  refine va_aldq hx hb hE.1 hW.1 c0 t (toW_get hM) ht hi hd ?_
  rw [hf]
  exact (kk p l e R s m args below meth c C H locs cells slots hW hS hc hs la hl)
theorem ev_aast {c0 c1 ci t n : Nat} {cA : ClassId} {q : vw_C} {vs : List Value} {f : Nat → Option Nat} {i : Int32} (hd : dI k.2.1 pc .aastore 1 pc') (hM : M[c0]? = some (.inl (cA, n, .inr (.inr (.inr (.inr f)))))) (ht : (xTys X)[t]? = some (cA, .object q.1)) (hv : M[c1]? = some (.inr (ci, vs))) (hq : cls[ci]? = some q) (hi : vp_in i n) (kk : Sem X k d pc' ls st (M.set c0 (.inl (cA, n, .inr (.inr (.inr (.inr (va_up f i.toNatClampNeg (some (xB X + c1))))))))) r M' kc ks) : Sem X k d pc ls (.ref (xB X + c1) :: .int i :: .ref (xB X + c0) :: st) M r M' kc ks := by
  intro p l e R s m args below meth c C H locs cells slots hW hS hc hs la hl
  obtain ⟨hx, hb, hr, hml, hown, hts, hlk, hnm, hbs, hR, hE, hX⟩ := id C
  obtain ⟨hd, rfl⟩ := hd
  have hlt : i.toNatClampNeg < n := Nat.not_le.mp fun q => hi (Or.inr q)
  have h0 : ¬ i < 0 := fun q => hi (Or.inl q)
  obtain ⟨r', hr', cellV, g1, g2, g3, -⟩ := hW.1 c1 _ (toW_get hv)
  have hcls := (hE.1.1 ci q hq).2
  obtain ⟨kA, comp, k1, k2, k3, -⟩ := (hE.1.2 t _ ht).2
  have hcomp : comp = (xD X).1 ci := Option.some.inj (k3.symm.trans hcls.1)
  subst hcomp
  obtain ⟨kC, hkC, -⟩ := hcls.2
  refine W.aast hx hb (hW.1 c0 _ (toW_get hM)) (fun q h => by cases h) (fun h => by cases h) k1 k2 rfl hkC ⟨h0, by show _ < (arrV _ _ _).slots.size; rw [arrV_size]; exact hlt⟩ g1 (fun q h => by rw [g3] at h; cases h) (by rw [g2]; exact hkC) (by rw [g2]; exact va_assign hcls) rfl rfl hd fun H1 e z oq => ?_
  have hP' := va_P.set hW.1 (toW_D (b := xB X)) (toW_get hM) (e := .inl (cA, n, .inr (.inr (.inr (.inr (va_up f i.toNatClampNeg (some (xB X + c1)))))))) (H1 := H1) (by
    show H1[xB X + c0]? = some (vp_cell _ _)
    rw [e]
    rw [vp_cell_q, vp_cell_q, arrV_store]
    congr 2
    funext q
    by_cases hq : q = i.toNatClampNeg
    · subst hq
      simp [updV, va_up, va_rf]
    · simp [updV, va_up, hq]) oq
  exact kk p l _ R s m args below meth c C H1 _ cells slots (hW.st hP' z) (hS.put z oq (Nat.le_add_right _ _)) hc hs la hl
theorem ev_alen {c0 n : Nat} {f : Nat → Int32} {v : Int32} (hd : dI k.2.1 pc .arraylength 1 pc') (hM : M[c0]? = some (.inl (xI X, n, .inl f))) (hv : Int32.ofNat n = v) (kk : Sem X k d pc' ls (.int v :: st) M r M' kc ks) : Sem X k d pc ls (.ref (xB X + c0) :: st) M r M' kc ks := by
  intro p l e R s m args below meth c C H locs cells slots hW hS hc hs la hl
  obtain ⟨hx, hb, hr, hml, hown, hts, hlk, hnm, hbs, hR, hE, hX⟩ := id C
  obtain ⟨hd, rfl⟩ := hd
  exact va_alen hx hb hE.1 hW.1 c0 0 (toW_get hM) (ty := .int) rfl hv hd (kk p l e R s m args below meth c C H locs cells slots hW hS hc hs la hl)
theorem ev_mmax {idx : Nat} {x y : Int32} (hd : dI k.2.1 pc (.invokestatic idx) 3 pc') (hw : Cond.methodLink k.1.cls idx Lib.Math.max.name ∈ TG) (hst : (st.map fun v => v.category).sum ≤ 8) (kk : Sem X k (d + 1) pc' ls (.int (if x < y then y else x) :: st) M r M' kc ks) : Sem X k (d + 1) pc ls (.int y :: .int x :: st) M r M' kc ks := by
  intro p l e R s m args below meth c C H locs cells slots hW hS hc hs la hl
  obtain ⟨hx, hb, hr, hml, hown, hts, hlk, hnm, hbs, hR, hE, hX⟩ := id C
  obtain ⟨hd, rfl⟩ := hd
  exact va_mmax hx hb (by rw [hml, hl.1.1]) hown (hts _ hw) (hts _ (TG_at 302 (by decide +kernel) (by decide +kernel))) (hts _ (TG_at 9 (by decide +kernel) (by decide +kernel))) (hts _ (TG_at 303 (by decide +kernel) (by decide +kernel))) (by omega) (by omega) (by omega) (by omega) hd (kk p l e R s m args below meth c C H locs cells slots hW hS hc hs la hl)
theorem ev_mmin {idx : Nat} {x y : Int32} (hd : dI k.2.1 pc (.invokestatic idx) 3 pc') (hw : Cond.methodLink k.1.cls idx Lib.Math.min.name ∈ TG) (hst : (st.map fun v => v.category).sum ≤ 8) (kk : Sem X k (d + 1) pc' ls (.int (if y < x then y else x) :: st) M r M' kc ks) : Sem X k (d + 1) pc ls (.int y :: .int x :: st) M r M' kc ks := by
  intro p l e R s m args below meth c C H locs cells slots hW hS hc hs la hl
  obtain ⟨hx, hb, hr, hml, hown, hts, hlk, hnm, hbs, hR, hE, hX⟩ := id C
  obtain ⟨hd, rfl⟩ := hd
  exact va_mmin hx hb (by rw [hml, hl.1.1]) hown (hts _ hw) (hts _ (TG_at 305 (by decide +kernel) (by decide +kernel))) (hts _ (TG_at 9 (by decide +kernel) (by decide +kernel))) (hts _ (TG_at 306 (by decide +kernel) (by decide +kernel))) (by omega) (by omega) (by omega) (by omega) hd (kk p l e R s m args below meth c C H locs cells slots hW hS hc hs la hl)
end MEM
end
section
theorem lva_mem : ∀ (As : List Value), (∀ v ∈ As, v.category = 1) → ∀ (i0 i : Nat) (v : Value), As[i]? = some v → (i0 + i, v) ∈ lv_args i0 As
  | [], _, i0, i, v, h => by simp at h
  | a :: As, hc, i0, 0, v, h => by
    rw [List.getElem?_cons_zero] at h
    cases h
    exact List.mem_cons_self
  | a :: As, hc, i0, i + 1, v, h => by
    rw [List.getElem?_cons_succ] at h
    have h1 := lva_mem As (fun v hv => hc v (List.mem_cons_of_mem _ hv)) (i0 + 1) i v h
    show (i0 + (i + 1), v) ∈ (i0, a) :: lv_args (if a.category = 2 then i0 + 2 else i0 + 1) As
    rw [if_neg (by rw [hc a List.mem_cons_self]; decide)]
    rw [show i0 + (i + 1) = i0 + 1 + i by omega]
    exact List.mem_cons_of_mem _ h1
theorem lg_len : ∀ (As : List Value), (∀ v ∈ As, v.category = 1) → (lg_sl As).length = As.length
  | [], _ => rfl
  | a :: As, hc => by
    have h1 := lg_len As (fun v hv => hc v (List.mem_cons_of_mem _ hv))
    have h2 := hc a List.mem_cons_self
    simp only [lg_sl, List.flatMap_cons, List.length_append, List.length_cons] at h1 ⊢
    rw [h1, if_neg (by rw [h2]; decide)]
    simp only [List.length_singleton]
    omega
theorem cat_cons {a : Value} {As : List Value} (h : a.category = 1) (hc : ∀ v ∈ As, v.category = 1) : ∀ v ∈ a :: As, v.category = 1 := fun v hv => (List.mem_cons.mp hv).elim (fun e => e ▸ h) (hc v)
abbrev ini (k : Mth) (As : List Value) : List (Option Value) := As.map some ++ List.replicate (k.2.2.1 - As.length) none
theorem ini_LV {k : Mth} {As : List Value} (hc : ∀ v ∈ As, v.category = 1) (hn : As.length ≤ k.2.2.1) : LV k.2.2.1 (ini k As) ((lg_sl As ++ List.replicate (k.2.2.1 - (lg_sl As).length) Slot.unset).toArray) := by
  have h := lv_entry As (n := k.2.2.1) (by rw [lg_len As hc]; exact hn)
  refine ⟨⟨h.1, h.2.1, fun q hq => by cases hq⟩, fun i v hi => ?_⟩
  have hA : As[i]? = some v := by
    by_cases hl : i < As.length
    · rw [List.getElem?_append_left (by simpa using hl), List.getElem?_map] at hi
      cases ha : As[i]? with
      | none => rw [ha] at hi; cases hi
      | some w => rw [ha] at hi; simpa using hi
    · rw [List.getElem?_append_right (by simpa using hl)] at hi
      have := List.eq_of_mem_replicate (List.mem_of_getElem? hi)
      cases this
  have h1 := lva_mem As hc 0 i v hA
  rw [Nat.zero_add] at h1
  exact ⟨h.2.2 (i, v) h1, hc v (List.mem_of_getElem? hA)⟩
abbrev Pcm (X : xC) (M : List va_E) (As : List Value) : Array Value → State → Prop := va_Pc As (fun U => EnvOK X U ∧ Wd X M U.heap)
abbrev rmM (d kc ks : Nat) : Room := { frames := d, cells := kc, slots := ks, locals := d * 64 }
theorem Met_of {X : xC} {k : Mth} {d : Nat} {M M' : List va_E} {r : Option Value} {kc ks : Nat} {As : List Value} (hX : XOK X) (hp : plainName k.1.cls = true) (hc : ∀ v ∈ As, v.category = 1) (hn : As.length ≤ k.2.2.1) (h : Sem X k d 0 (ini k As) [] M r M' kc ks) (l : Launch) :
    Met l k.1 (wsM k) (rmM d kc ks) (Pcm X M As) (Qs X r M') kc ks (fun q => xB X ≤ q) := by
  refine Met.ofW (cc := k.2.1) (maxL := k.2.2.1) (ret := k.2.2.2) hp rfl ?_
  intro p e s m args below meth c s₁ B hml hv
  obtain ⟨rfl, hE, hW⟩ := hv
  have hts := atoms_spec (ws := wsM k) B.pre
  rw [lg_entry_eq]
  have h1 := h p l e (headSpec (wsM k) (rmM d kc ks)).room s m _ below meth c ⟨B.exec, B.bytes, B.returns, hml, findClass_of_methodNamed B.named, fun w hw => hts w (List.mem_cons_of_mem _ hw), B.notSynchronized, (name_of_methodNamed B.named B.method).1, by rw [hW.2]; exact Nat.le_add_right _ _, ⟨Nat.le_refl _, Nat.le_refl _⟩, hE, hX⟩ s.heap [] 0 0 hW va_S.rf (by rw [Nat.zero_add]; exact Nat.le_refl _) (by rw [Nat.zero_add]; exact Nat.le_refl _) _ (ini_LV hc hn)
  rw [Nat.zero_add, Nat.zero_add] at h1
  exact h1
theorem Pcm_blind {X : xC} {M : List va_E} {As : List Value} (hX : XOK X) : FrameBlind (Pcm X M As) := fun a U g mk h => ⟨h.1, EnvOK.move hX (State.WarmedH.refl U) (fun _ _ => rfl) h.2.1, h.2.2⟩
theorem Pcm_at {X : xC} {M : List va_E} {As : List Value} (hX : XOK X) {s : State} {H : Heap} {locs : List Loc} (hE : EnvOK X s) (hW : Wd X M H) (hS : va_S (fun q => xB X ≤ q) s.heap H locs) (hbs : xB X ≤ s.heap.size) : ∀ U : State, U.heap = H → s.WarmedH U.vm → Pcm X M As As.toArray U :=
  fun U hU hWm => ⟨rfl, EnvOK.move hX hWm (fun q hq => by rw [hU]; exact hS.2.1 q (Nat.lt_of_lt_of_le hq hbs) (Nat.not_le.mpr hq)) hE, by rw [hU]; exact hW⟩
theorem my_call {p : Program} {l : Launch} {e : Env} {R : Room} {s : State} {m : MethodId} {args : Array Value} {below : List Frame} {meth : Method} {c : Code} {H : Heap} {locs : List Loc} {cells slots mc ms : Nat} {Q : State → Prop} {pc : Nat} {la : Array Slot} {rest st0 : List Value} {a : Array Value} {X : xC} {r1 : Option Value} {M1 : List va_E}
    (hr : va_Run p l e R s m args below meth c H locs cells slots mc ms (F0 m pc la st0) rest (Qs X r1 M1 a) (fun q => xB X ≤ q)) (hS : va_S (fun q => xB X ≤ q) s.heap H locs)
    (kk : ∀ (H1 : Heap) (locs1 : List Loc), Wd X M1 H1 → va_S (fun q => xB X ≤ q) s.heap H1 locs1 → W p l e R s m args below meth c H1 locs1 (cells + mc) (slots + ms) Q (F0 m (pc + 3) la (r1.toList ++ rest))) : W p l e R s m args below meth c H locs cells slots Q (F0 m pc la st0) := by
  intro T hT Y
  obtain ⟨v, st₀, t, T', L, h0, X', hL, e1, e2, ⟨hv, hW1, hz, hk⟩, stp⟩ := hr T hT Y
  cases hv
  rw [h0] at hz hk
  obtain ⟨t2, a1, b1⟩ := kk T'.heap (locs ++ L) (by rw [e1]; exact hW1) ⟨Nat.le_trans hS.1 (by rw [e1]; exact hz), fun q h1 h2 => by rw [e1, hk q (Nat.lt_of_lt_of_le h1 hS.1) h2]; exact hS.2.1 q h1 h2, fun q hq => by
      rcases List.mem_append.mp hq with h | h
      · exact hS.2.2 q h
      · exact hL q h⟩ T' rfl X'
  exact ⟨t2, stp t2 a1, b1⟩
/-- what a call asks of the method called, n arguments behind the receiver -/
def CalK (k2 : Mth) (n : Nat) : Prop := Cond.initialized k2.1.cls ∈ TG ∧ Cond.code k2.1 k2.2.1 k2.2.2.1 k2.2.2.2 ∈ TG ∧ plainName k2.1.cls = true ∧ (k2.1.cls ≠ "java/lang/invoke/MethodHandle" ∧ k2.1.cls ≠ "java/lang/invoke/VarHandle") ∧ (parseMethodDescriptor k2.1.desc).map (fun d => d.parameters.length) = some n ∧ k2.2.2.1 ≤ 45
def StaK (k2 : Mth) (n : Nat) : Prop := CalK k2 n ∧ Cond.static k2.1 ∈ TG ∧ n ≤ k2.2.2.1
def InsK (k2 : Mth) (n : Nat) : Prop := CalK k2 n ∧ Cond.instanceMethod k2.1 ∈ TG ∧ n + 1 ≤ k2.2.2.1
def VirK (k2 : Mth) (n : Nat) : Prop := InsK k2 n ∧ Cond.selects k2.1.cls k2.1 k2.1 ∈ TG
theorem CalK.good {k2 : Mth} {n : Nat} (h : CalK k2 n) : GoodIn TG (wsM k2) := fun w hw => by
  rcases List.mem_cons.mp hw with rfl | h1
  · exact TG_good _ h.2.1
  · exact TG_good _ h1
theorem CalK.B {k2 : Mth} {n d d' kc ks : Nat} {R : Room} {s : State} {args : Array Value} {own : String} {idx : Nat} (h : CalK k2 n) (hts : ∀ w ∈ TG, w.before args s = true) (hl : (Cond.methodLink own idx k2.1).before args s = true) (hR : d + 1 ≤ R.frames ∧ (d + 1) * 64 ≤ R.locals) :
    CallB R s args own idx k2.1 k2.2.1 k2.2.2.1 k2.2.2.2 (wsM k2) (rmM d kc ks) kc ks n := by
  obtain ⟨h1, h2, h3, h4, h5, h6⟩ := id h
  refine ⟨rfl, rfl, hR.1, ?_, pay_in hts h.good, List.mem_cons_self, hts _ h2, hts _ h1, h4, fun sig hs => ?_, hl⟩
  · show 8 + (k2.2.2.1 + 11) + d * 64 ≤ R.locals
    have := hR.2
    omega
  · rw [hs] at h5
    exact (Option.some.inj h5).symm
theorem CalK.N {k2 : Mth} {n d d' kc ks : Nat} {R : Room} {s : State} {args : Array Value} {own host : String} {idx : Nat} (h : CalK k2 n) (hts : ∀ w ∈ TG, w.before args s = true) (hl : va_Nw (.methodLinkNest own idx k2.1 host) s) (hR : d + 1 ≤ R.frames ∧ (d + 1) * 64 ≤ R.locals) :
    va_CN R s args own idx k2.1 host k2.2.1 k2.2.2.1 k2.2.2.2 (wsM k2) (rmM d kc ks) kc ks n := by
  obtain ⟨h1, h2, h3, h4, h5, h6⟩ := id h
  refine ⟨⟨rfl, rfl, hR.1, ?_, pay_in hts h.good, List.mem_cons_self⟩, hts _ h2, hts _ h1, h4, fun sig hs => ?_, va_Nw.use rfl hl⟩
  · show 8 + (k2.2.2.1 + 11) + d * 64 ≤ R.locals
    have := hR.2
    omega
  · rw [hs] at h5
    exact (Option.some.inj h5).symm
section CALL
variable {X : xC} {k : Mth} {d pc pc' tgt : Nat} {ls : List (Option Value)} {st : List Value} {M M' : List va_E} {r : Option Value} {kc ks : Nat}
variable {k2 : Mth} {idx : Nat} {As : List Value} {r1 : Option Value} {M1 : List va_E} {k1 s1 : Nat}
theorem ev_callS (hd : dI k.2.1 pc (.invokestatic idx) 3 pc') (hw : Cond.methodLink k.1.cls idx k2.1 ∈ TG) (hk : StaK k2 As.length) (hca : ∀ v ∈ As, v.category = 1) (hst : (st.map fun v => v.category).sum ≤ 8) (h : Sem X k2 d 0 (ini k2 As) [] M r1 M1 k1 s1) (kk : Sem X k (d + 1) pc' ls (r1.toList ++ st) M1 r M' kc ks) : Sem X k (d + 1) pc ls (As.reverse ++ st) M r M' (k1 + kc) (s1 + ks) := by
  intro p l e R s m args below meth c C H locs cells slots hW hS hc hs la hl
  obtain ⟨hx, hb, hr, hml, hown, hts, hlk, hnm, hbs, hR, hE, hX⟩ := id C
  obtain ⟨hd, rfl⟩ := hd
  refine my_call (va_runS (As := As) (rest := st) ⟨hx, hb, hml, hown, hts⟩ (Met_of hX hk.1.2.2.1 hca hk.2.2 h l) ⟨hk.1.B (d' := d) hts (hts _ hw) hR, hts _ hk.2.1⟩ ⟨Pcm_blind hX, Pcm_at hX hE hW hS hbs⟩ rfl rfl hl.1.1 rfl (lv_room hst) hd ⟨by omega, by omega⟩) hS (fun H1 locs1 hW1 hS1 => ?_)
  have h2 := kk p l e R s m args below meth c C H1 locs1 (cells + k1) (slots + s1) hW1 hS1 (by omega) (by omega) la hl
  rw [Nat.add_assoc, Nat.add_assoc] at h2
  exact h2
theorem ev_callSN {host : String} (hd : dI k.2.1 pc (.invokestatic idx) 3 pc') (hw : (k.1.cls, idx, k2.1, host) ∈ nests) (hk : StaK k2 As.length) (hca : ∀ v ∈ As, v.category = 1) (hst : (st.map fun v => v.category).sum ≤ 8) (h : Sem X k2 d 0 (ini k2 As) [] M r1 M1 k1 s1) (kk : Sem X k (d + 1) pc' ls (r1.toList ++ st) M1 r M' kc ks) : Sem X k (d + 1) pc ls (As.reverse ++ st) M r M' (k1 + kc) (s1 + ks) := by
  intro p l e R s m args below meth c C H locs cells slots hW hS hc hs la hl
  obtain ⟨hx, hb, hr, hml, hown, hts, hlk, hnm, hbs, hR, hE, hX⟩ := id C
  obtain ⟨hd, rfl⟩ := hd
  refine my_call (va_runSN (As := As) (rest := st) ⟨hx, hb, hml, hown, hts⟩ (Met_of hX hk.1.2.2.1 hca hk.2.2 h l) ⟨hk.1.N (d' := d) hts (hE.2.1 _ hw) hR, hts _ hk.2.1, trivial⟩ ⟨Pcm_blind hX, Pcm_at hX hE hW hS hbs⟩ rfl rfl hl.1.1 rfl (lv_room hst) hd ⟨by omega, by omega⟩) hS (fun H1 locs1 hW1 hS1 => ?_)
  have h2 := kk p l e R s m args below meth c C H1 locs1 (cells + k1) (slots + s1) hW1 hS1 (by omega) (by omega) la hl
  rw [Nat.add_assoc, Nat.add_assoc] at h2
  exact h2
theorem ev_callV {c0 ci : Nat} {fs : List Value} {q : vw_C} (hd : dI k.2.1 pc (.invokevirtual idx) 3 pc') (hw : Cond.methodLink k.1.cls idx k2.1 ∈ TG) (hk : VirK k2 As.length) (hM : M[c0]? = some (.inr (ci, fs))) (hq : cls[ci]? = some q) (hC : q.1 = k2.1.cls) (hca : ∀ v ∈ As, v.category = 1) (hst : (st.map fun v => v.category).sum ≤ 8) (h : Sem X k2 d 0 (ini k2 (.ref (xB X + c0) :: As)) [] M r1 M1 k1 s1) (kk : Sem X k (d + 1) pc' ls (r1.toList ++ st) M1 r M' kc ks) : Sem X k (d + 1) pc ls (As.reverse ++ .ref (xB X + c0) :: st) M r M' (k1 + kc) (s1 + ks) := by
  intro p l e R s m args below meth c C H locs cells slots hW hS hc hs la hl
  obtain ⟨hx, hb, hr, hml, hown, hts, hlk, hnm, hbs, hR, hE, hX⟩ := id C
  obtain ⟨hd, rfl⟩ := hd
  refine my_call (va_runV (As := As) (rest := st) ⟨hx, hb, hml, hown, hts⟩ (Met_of hX hk.1.1.2.2.1 (As := .ref (xB X + c0) :: As) (cat_cons rfl hca) hk.1.2.2 h l) ⟨hk.1.1.B (d' := d) hts (hts _ hw) hR, hts _ hk.1.2.1, hts _ hk.2⟩ ⟨Pcm_blind hX, (by rw [← hC]; exact va_recv hE.1 hW.1 hq (toW_get hM)), Pcm_at hX hE hW hS hbs⟩ rfl rfl hl.1.1 rfl (lv_room hst) hd ⟨by omega, by omega⟩) hS (fun H1 locs1 hW1 hS1 => ?_)
  have h2 := kk p l e R s m args below meth c C H1 locs1 (cells + k1) (slots + s1) hW1 hS1 (by omega) (by omega) la hl
  rw [Nat.add_assoc, Nat.add_assoc] at h2
  exact h2
theorem ev_callI {c0 : Nat} (hd : dI k.2.1 pc (.invokespecial idx) 3 pc') (hw : Cond.methodLink k.1.cls idx k2.1 ∈ TG) (hk : InsK k2 As.length) (hin : k2.1.name = "<init>") (hrt : k2.2.2.2 = none) (hca : ∀ v ∈ As, v.category = 1) (hst : (st.map fun v => v.category).sum ≤ 8) (h : Sem X k2 d 0 (ini k2 (.ref (xB X + c0) :: As)) [] M r1 M1 k1 s1) (kk : Sem X k (d + 1) pc' ls (r1.toList ++ st) M1 r M' kc ks) : Sem X k (d + 1) pc ls (As.reverse ++ .ref (xB X + c0) :: st) M r M' (k1 + kc) (s1 + ks) := by
  intro p l e R s m args below meth c C H locs cells slots hW hS hc hs la hl
  obtain ⟨hx, hb, hr, hml, hown, hts, hlk, hnm, hbs, hR, hE, hX⟩ := id C
  obtain ⟨hd, rfl⟩ := hd
  have hB := hk.1.B (d := d) (d' := d) (kc := k1) (ks := s1) hts (hts _ hw) hR
  rw [hrt] at hB
  refine my_call (va_runI (As := As) (rest := st) ⟨hx, hb, hml, hown, hts⟩ (Met_of hX hk.1.2.2.1 (As := .ref (xB X + c0) :: As) (cat_cons rfl hca) hk.2.2 h l) ⟨hB, hin, hts _ hk.2.1⟩ ⟨Pcm_blind hX, Pcm_at hX hE hW hS hbs⟩ rfl rfl hl.1.1 rfl (lv_room hst) hd ⟨by omega, by omega⟩) hS (fun H1 locs1 hW1 hS1 => ?_)
  have h2 := kk p l e R s m args below meth c C H1 locs1 (cells + k1) (slots + s1) hW1 hS1 (by omega) (by omega) la hl
  rw [Nat.add_assoc, Nat.add_assoc] at h2
  exact h2
theorem ev_callIN {c0 : Nat} {host : String} (hd : dI k.2.1 pc (.invokespecial idx) 3 pc') (hw : (k.1.cls, idx, k2.1, host) ∈ nests) (hk : InsK k2 As.length) (hin : k2.1.name = "<init>") (hrt : k2.2.2.2 = none) (hca : ∀ v ∈ As, v.category = 1) (hst : (st.map fun v => v.category).sum ≤ 8) (h : Sem X k2 d 0 (ini k2 (.ref (xB X + c0) :: As)) [] M r1 M1 k1 s1) (kk : Sem X k (d + 1) pc' ls (r1.toList ++ st) M1 r M' kc ks) : Sem X k (d + 1) pc ls (As.reverse ++ .ref (xB X + c0) :: st) M r M' (k1 + kc) (s1 + ks) := by
  intro p l e R s m args below meth c C H locs cells slots hW hS hc hs la hl
  obtain ⟨hx, hb, hr, hml, hown, hts, hlk, hnm, hbs, hR, hE, hX⟩ := id C
  obtain ⟨hd, rfl⟩ := hd
  have hB := hk.1.N (d := d) (d' := d) (kc := k1) (ks := s1) hts (hE.2.1 _ hw) hR
  rw [hrt] at hB
  refine my_call (va_runIN (As := As) (rest := st) ⟨hx, hb, hml, hown, hts⟩ (Met_of hX hk.1.2.2.1 (As := .ref (xB X + c0) :: As) (cat_cons rfl hca) hk.2.2 h l) ⟨hB, hin, hts _ hk.2.1⟩ ⟨Pcm_blind hX, Pcm_at hX hE hW hS hbs⟩ rfl rfl hl.1.1 rfl (lv_room hst) hd ⟨by omega, by omega⟩) hS (fun H1 locs1 hW1 hS1 => ?_)
  have h2 := kk p l e R s m args below meth c C H1 locs1 (cells + k1) (slots + s1) hW1 hS1 (by omega) (by omega) la hl
  rw [Nat.add_assoc, Nat.add_assoc] at h2
  exact h2
theorem ev_objInit {a : Nat} (hd : dI k.2.1 pc (.invokespecial idx) 3 pc') (hw : Cond.methodLink k.1.cls idx Lib.objectInit ∈ TG) (hst : (st.map fun v => v.category).sum ≤ 8) (kk : Sem X k (d + 1) pc' ls st M r M' kc ks) : Sem X k (d + 1) pc ls (.ref a :: st) M r M' kc ks := by
  intro p l e R s m args below meth c C H locs cells slots hW hS hc hs la hl
  obtain ⟨hx, hb, hr, hml, hown, hts, hlk, hnm, hbs, hR, hE, hX⟩ := id C
  obtain ⟨hd, rfl⟩ := hd
  exact W.objInit hx hb hown (hts _ hw) (hts _ (TG_at 21 (by decide +kernel) (by decide +kernel))) (hts _ (TG_at 22 (by decide +kernel) (by decide +kernel))) rfl (by rw [hml]; exact hl.1.1) rfl hd (by omega) (by show 2 * 0 + _ + 12 ≤ _; omega) (kk p l e R s m args below meth c C H locs cells slots hW hS hc hs la hl)
theorem ev_new {c0 ci : Nat} {q : vw_C} {fs : List Value} (hd : dI k.2.1 pc (.new idx) 3 pc') (hq : cls[ci]? = some q) (hw : Cond.classLink k.1.cls idx q.1 ∈ TG) (hi : Cond.instantiable q.1 q.2.2 ∈ TG) (hn : Cond.initialized q.1 ∈ TG) (hfs : ∀ j, j < q.2.2 → defaultValue (clsT ci j) = vp_V fs j) (hlen : M.length = c0) (kk : Sem X k d pc' ls (.ref (xB X + c0) :: st) (M ++ [.inr (ci, fs)]) r M' kc ks) : Sem X k d pc ls st M r M' (1 + kc) (q.2.2 + ks) := by
  intro p l e R s m args below meth c C H locs cells slots hW hS hc hs la hl
  obtain ⟨hx, hb, hr, hml, hown, hts, hlk, hnm, hbs, hR, hE, hX⟩ := id C
  obtain ⟨hd, rfl⟩ := hd
  have hKn := hE.1.1 ci _ hq
  refine W.newcK hx hb hown (hts _ hw) (hts _ hi) (hts _ hn) rfl hd (by omega) (by omega) hKn.2.1 rfl fun H1 kC hkC e1 z1 o1 => ?_
  have hW1 : Wd X (M ++ [.inr (ci, fs)]) H1 := hW.push o1 z1 ⟨_, hq, (u_born (clsT ci) hts (i_cls ci _ hq) hKn hkC e1 (t_cls ci _ hq)).to hfs⟩
  have h2 := kk p l e R s m args below meth c C H1 locs (cells + 1) (slots + q.2.2) hW1 ⟨Nat.le_trans hS.1 (by omega), fun x h1 h2 => (o1 x (Nat.lt_of_lt_of_le h1 hS.1)).trans (hS.2.1 x h1 h2), hS.2.2⟩ (by omega) (by omega) la hl
  rw [Nat.add_assoc, Nat.add_assoc] at h2
  rw [hW.2, hlen]
  exact h2
theorem ev_newa {c0 N : Nat} {n : Int32} (hd : dI k.2.1 pc (.newarray .int) 2 pc') (hn : ¬ n < 0) (hN : n.toNatClampNeg = N) (hb4 : N ≤ 1000000) (hlen : M.length = c0) (hxI : ∀ U, EnvOK X U → U.vm.findClass "[I" = some (xI X)) (kk : Sem X k d pc' ls (.ref (xB X + c0) :: st) (M ++ [.inl (xI X, N, .inl (fun _ => 0))]) r M' kc ks) : Sem X k d pc ls (.int n :: st) M r M' (1 + kc) (N + ks) := by
  intro p l e R s m args below meth c C H locs cells slots hW hS hc hs la hl
  obtain ⟨hx, hb, hr, hml, hown, hts, hlk, hnm, hbs, hR, hE, hX⟩ := id C
  obtain ⟨hd, rfl⟩ := hd
  refine va_newaK (atype := .int) hx hb (hts _ (TG_at 45 (by decide +kernel) (by decide +kernel))) rfl hd rfl hn hN (by show N * 4 ≤ _; omega) (by omega) (by omega) rfl fun H1 cA e1 z1 o1 hAr hNm => ?_
  have hcA : cA = xI X := Option.some.inj (hNm.symm.trans (hxI s hE))
  subst hcA
  have hW1 : Wd X (M ++ [.inl (xI X, N, .inl (fun _ => 0))]) H1 := hW.push o1 z1 (by
    show H1[H.size]? = some (vp_cell _ _)
    rw [e1, vp_cell_i]
    rfl)
  have h2 := kk p l e R s m args below meth c C H1 locs (cells + 1) (slots + N) hW1 ⟨Nat.le_trans hS.1 (by omega), fun x h1 h2 => (o1 x (Nat.lt_of_lt_of_le h1 hS.1)).trans (hS.2.1 x h1 h2), hS.2.2⟩ (by omega) (by omega) la hl
  rw [Nat.add_assoc, Nat.add_assoc] at h2
  rw [hW.2, hlen]
  exact h2
theorem ev_newq {c0 N t : Nat} {cA : ClassId} {Cn : String} {n : Int32} (hd : dI k.2.1 pc (.anewarray idx) 3 pc') (hw : Cond.classLink k.1.cls idx Cn ∈ TG) (hao : ∀ U, EnvOK X U → va_AO Cn U) (hn : ¬ n < 0) (hN : n.toNatClampNeg = N) (hb4 : N ≤ 1000000) (hlen : M.length = c0) (ht : (xTys X)[t]? = some (cA, .object Cn)) (kk : Sem X k d pc' ls (.ref (xB X + c0) :: st) (M ++ [.inl (cA, N, .inr (.inr (.inr (.inr (fun _ => none)))))]) r M' kc ks) : Sem X k d pc ls (.int n :: st) M r M' (1 + kc) (N + ks) := by
  intro p l e R s m args below meth c C H locs cells slots hW hS hc hs la hl
  obtain ⟨hx, hb, hr, hml, hown, hts, hlk, hnm, hbs, hR, hE, hX⟩ := id C
  obtain ⟨hd, rfl⟩ := hd
  subst hN
  refine W.anew hx hb hown (hts _ hw) (va_AO.use (hao s hE)) rfl hd rfl hn (by omega) (by omega) (by omega) fun cA' kA comp f1 f2 f3 f4 => ?_
  obtain ⟨kA2, comp2, w1, w2, w3, w4⟩ := (hE.1.2 t _ ht).2
  have hcA : cA' = cA := Option.some.inj (f1.symm.trans w4)
  subst hcA
  generalize hH1 : H.push ({ cls := cA', slots := Array.replicate n.toNatClampNeg .null, vm := .none } : Cell) = H1
  have z1 : H1.size = H.size + 1 := by rw [← hH1, Array.size_push]
  have e1 : H1[H.size]? = some (arrV cA' n.toNatClampNeg (fun _ => .null)) := by rw [← hH1, Array.getElem?_push_size, ← arrV_new]
  have o1 : ∀ q : Nat, q < H.size → H1[q]? = H[q]? := fun q hq => by rw [← hH1, Array.getElem?_push, if_neg (Nat.ne_of_lt hq)]
  have hW1 : Wd X (M ++ [.inl (cA', n.toNatClampNeg, .inr (.inr (.inr (.inr (fun _ => none)))))]) H1 := hW.push o1 z1 (by
    show H1[H.size]? = some (vp_cell _ _)
    rw [vp_cell_q]
    exact e1)
  have h2 := kk p l e R s m args below meth c C H1 locs (cells + 1) (slots + n.toNatClampNeg) hW1 ⟨Nat.le_trans hS.1 (by omega), fun x h1 h2 => (o1 x (Nat.lt_of_lt_of_le h1 hS.1)).trans (hS.2.1 x h1 h2), hS.2.2⟩ (by omega) (by omega) la hl
  rw [Nat.add_assoc, Nat.add_assoc] at h2
  rw [hW.2, hlen]
  exact h2
theorem nfw : nativeFrameWords "java/lang/System" "arraycopy" 5 + 11 ≤ 56 := by decide +kernel
theorem ev_copy {c0 c1 n0 n1 : Nat} {f g : Nat → Int32} {sp dp n : Int32} (hd : dI k.2.1 pc (.invokestatic idx) 3 pc') (hw : Cond.methodLink k.1.cls idx arraycopyName ∈ TG) (hst : (st.map fun v => v.category).sum ≤ 8) (hM0 : M[c0]? = some (.inl (xI X, n0, .inl f))) (hM1 : M[c1]? = some (.inl (xI X, n1, .inl g))) (h1 : ¬ sp < 0) (h2 : ¬ dp < 0) (h3 : ¬ n < 0) (h4 : sp.toNatClampNeg + n.toNatClampNeg ≤ n0) (h5 : dp.toNatClampNeg + n.toNatClampNeg ≤ n1)
    (kk : Sem X k (d + 1) pc' ls st (M.set c1 (.inl (xI X, n1, .inl (va_cpy f g sp.toNatClampNeg dp.toNatClampNeg n.toNatClampNeg)))) r M' kc ks) : Sem X k (d + 1) pc ls (.int n :: .int dp :: .ref (xB X + c1) :: .int sp :: .ref (xB X + c0) :: st) M r M' kc ks := by
  intro p l e R s m args below meth c C H locs cells slots hW hS hc hs la hl
  obtain ⟨hx, hb, hr, hml, hown, hts, hlk, hnm, hbs, hR, hE, hX⟩ := id C
  obtain ⟨hd, rfl⟩ := hd
  have nn : ∀ z : Int32, ¬ z < 0 → z.toInt = (z.toNatClampNeg : Int) := by
    intro z hz
    have hz0 : (0 : Int) ≤ z.toInt := by
      have := Int32.not_lt.mp hz
      simpa using Int32.le_iff_toInt_le.mp this
    show z.toInt = ((z.toInt.toNat : Nat) : Int)
    omega
  intro T hT Y
  have hc0 : H[xB X + c0]? = some (vp_cell (xI X) (n0, .inl f)) := hW.1 c0 _ (toW_get hM0)
  have hc1 : H[xB X + c1]? = some (vp_cell (xI X) (n1, .inl g)) := hW.1 c1 _ (toW_get hM1)
  obtain ⟨-, k0, hk0, cm0, hkk0⟩ := (hE.1.2 0 _ rfl).1 n0 (fun j => .int (f j))
  obtain ⟨-, kb, hkb, cm1, hkk1⟩ := (hE.1.2 0 _ rfl).1 n1 (fun j => .int (g j))
  obtain ⟨vm', X', step⟩ := Y.arraycopy hx hown (hts _ hw) (hts _ (TG_at 327 (by decide +kernel) (by decide +kernel))) (hts _ (TG_at 326 (by decide +kernel) (by decide +kernel))) (hts _ (TG_at 10 (by decide +kernel) (by decide +kernel))) (src := xB X + c0) (dst := xB X + c1) (cs := vp_cell (xI X) (n0, .inl f)) (cd := vp_cell (xI X) (n1, .inl g)) (srcPos := sp) (destPos := dp) (n := n) (by rw [hT]; exact hc0) (by rw [hT]; exact hc1)
    (fun _ h => by cases h) (fun _ h => by cases h) (fun h => by cases h) (fun h => by cases h) hk0 hkb hkk0 hkk1 (by simp [refKind]) h1 h2 h3
    (by rw [nn sp h1, nn n h3]; show ¬ _ > ((arrV (xI X) n0 (fun j => .int (f j))).slots.size : Int); rw [arrV_size]; omega)
    (by rw [nn dp h2, nn n h3]; show ¬ _ > ((arrV (xI X) n1 (fun j => .int (g j))).slots.size : Int); rw [arrV_size]; omega)
    (fun vm₁ _ i hi => by
      have e : (vp_cell (xI X) (n0, .inl f)).slots.getD (sp.toNatClampNeg + i) .null = .int (f (sp.toNatClampNeg + i)) := by
        show (arrV (xI X) n0 (fun j => .int (f j))).slots.getD _ _ = _
        rw [Array.getD_eq_getD_getElem?, arrV_read _ _ (by omega)]
        rfl
      refine ⟨?_, ?_⟩
      · rw [e]
        rfl
      · rw [e]
        exact trivial)
    (g := F0 m pc la (.int n :: .int dp :: .ref (xB X + c1) :: .int sp :: .ref (xB X + c0) :: st)) rfl (by rw [hml]; exact hl.1.1) (rest := st) rfl (by rw [hb]; exact hd) (by omega) (by show 2 * 0 + _ + (nativeFrameWords "java/lang/System" "arraycopy" 5 + 11) ≤ _; exact Nat.le_trans (Nat.add_le_add (by omega) nfw) (by omega : 8 + 56 ≤ _))
  have e1 : copied (vp_cell (xI X) (n0, .inl f)) (vp_cell (xI X) (n1, .inl g)) sp dp n = vp_cell (xI X) (n1, .inl (va_cpy f g sp.toNatClampNeg dp.toNatClampNeg n.toNatClampNeg)) := va_copied (fun z => .int z) (xI X) (xI X) f g h4
  rw [e1] at X' step
  have hlt : xB X + c1 < H.size := (Array.getElem?_eq_some_iff.mp hc1).1
  have hheap : ((T.setVm vm').setCell (xB X + c1) (vp_cell (xI X) (n1, .inl (va_cpy f g sp.toNatClampNeg dp.toNatClampNeg n.toNatClampNeg)))).heap = H.setIfInBounds (xB X + c1) (vp_cell (xI X) (n1, .inl (va_cpy f g sp.toNatClampNeg dp.toNatClampNeg n.toNatClampNeg))) := by rw [← hT]; rfl
  have oq : ∀ q : Nat, q ≠ xB X + c1 → (H.setIfInBounds (xB X + c1) (vp_cell (xI X) (n1, .inl (va_cpy f g sp.toNatClampNeg dp.toNatClampNeg n.toNatClampNeg))))[q]? = H[q]? := fun q hq => by simp [Array.getElem?_setIfInBounds, Ne.symm hq]
  have hP' := va_P.set hW.1 (toW_D (b := xB X)) (toW_get hM1) (e := .inl (xI X, n1, .inl (va_cpy f g sp.toNatClampNeg dp.toNatClampNeg n.toNatClampNeg))) (show (H.setIfInBounds (xB X + c1) _)[xB X + c1]? = some _ by simp [Array.getElem?_setIfInBounds, hlt]) oq
  obtain ⟨t, a1, b1⟩ := kk p l e R s m args below meth c C _ _ cells slots (hW.st hP' (by simp)) ⟨by simp; exact hS.1, fun q g1 g2 => by
      rw [oq q (fun e => g2 (by rw [e]; exact Nat.le_add_right _ _))]
      exact hS.2.1 q g1 g2, fun q hq => by
      rcases List.mem_append.mp hq with h | h
      · exact hS.2.2 q h
      · obtain ⟨z, -, hz⟩ := List.mem_map.mp h
        rw [← hz]
        exact Nat.le_add_right _ _⟩ hc hs la hl _ hheap X'
  exact ⟨t, step t a1, b1⟩
end CALL
end
section
/-! ===== the layout: the cells of the two systems behind their constructors; the store of all ints ===== -/
abbrev St : Type := Nat → Nat → Int32
abbrev LT : Type := Nat ⊕ (Nat × List Nat) ⊕ (Nat × List (Option Nat))
def lay : List LT := [.inr (.inr (5, [some 1, some 8, some 15, some 2, some 22, some 24, some 34, some 36, some 45, none])), .inr (.inr (1, [some 2, some 3, some 5, some 6, some 7, none, none])), .inr (.inr (0, [some 3, some 4])), .inl 40, .inl 10, .inl 10, .inl 10, .inl 20, .inr (.inr (1, [some 9, some 10, some 12, some 13, some 14, none, none])), .inr (.inr (0, [some 10, some 11])), .inl 40, .inl 10, .inl 10, .inl 10, .inl 20, .inr (.inr (1, [some 16, some 17, some 19, some 20, some 21, none, none])), .inr (.inr (0, [some 17, some 18])), .inl 40, .inl 10, .inl 10, .inl 10, .inl 20, .inr (.inr (0, [some 3, some 23])), .inl 10, .inr (.inr (2, [some 25, none, none, none, none])), .inr (.inl (0, [26, 28, 30, 32])), .inr (.inr (0, [some 3, some 27])), .inl 10, .inr (.inr (0, [some 3, some 29])), .inl 10, .inr (.inr (0, [some 3, some 31])), .inl 10, .inr (.inr (0, [some 3, some 33])), .inl 10, .inr (.inr (4, [some 35, none, none, none, none, none])), .inl 120, .inr (.inl (1, [37, 39, 41, 43])), .inr (.inr (3, [some 38, none, none])), .inl 40, .inr (.inr (3, [some 40, none, none])), .inl 40, .inr (.inr (3, [some 42, none, none])), .inl 40, .inr (.inr (3, [some 44, none, none])), .inl 40, .inl 7, .inr (.inr (6, [some 47, some 48, some 49, none, some 50, some 51, none, none, none, none, none, some 52, some 53, some 54, some 55, some 56])), .inl 92, .inl 92, .inl 92, .inl 7, .inl 120, .inl 3, .inl 4, .inl 4, .inl 160, .inl 40]
def fv (X : xC) (x : Int32) (o : Option Nat) : Value := match o with
  | some c' => .ref (xB X + c')
  | none => .int x
def cellOf (X : xC) (S : St) (c : Nat) (t : LT) : va_E := match t with
  | .inl n => .inl (xI X, n, .inl (S c))
  | .inr (.inl (q, cs)) => .inl (xR X q, cs.length, .inr (.inr (.inr (.inr (fun i => (cs[i]?).map (fun c' => xB X + c'))))))
  | .inr (.inr (ci, fs)) => .inr (ci, (List.range fs.length).map (fun j => fv X (S c j) (fs[j]?).join))
def mkL (X : xC) (S : St) : Nat → List LT → List va_E
  | _, [] => []
  | c, t :: ts => cellOf X S c t :: mkL X S (c + 1) ts
def mkM (X : xC) (S : St) : List va_E := mkL X S 0 lay
theorem mkL_get {X : xC} {S : St} : ∀ (ts : List LT) (c i : Nat), (mkL X S c ts)[i]? = (ts[i]?).map (cellOf X S (c + i))
  | [], c, i => by simp [mkL]
  | t :: ts, c, 0 => by simp [mkL]
  | t :: ts, c, i + 1 => by
    simp only [mkL, List.getElem?_cons_succ]
    rw [mkL_get ts (c + 1) i, show c + 1 + i = c + (i + 1) by omega]
theorem mkM_get {X : xC} {S : St} (i : Nat) : (mkM X S)[i]? = (lay[i]?).map (cellOf X S i) := by
  unfold mkM
  rw [mkL_get, Nat.zero_add]
theorem mkM_arr {X : xC} {S : St} {c n : Nat} (h : lay[c]? = some (.inl n)) : (mkM X S)[c]? = some (.inl (xI X, n, .inl (S c))) := by rw [mkM_get, h]; rfl
theorem mkM_obj {X : xC} {S : St} {c ci : Nat} {fs : List (Option Nat)} (h : lay[c]? = some (.inr (.inr (ci, fs)))) : (mkM X S)[c]? = some (.inr (ci, (List.range fs.length).map (fun j => fv X (S c j) (fs[j]?).join))) := by rw [mkM_get, h]; rfl
theorem mkM_rar {X : xC} {S : St} {c q : Nat} {cs : List Nat} (h : lay[c]? = some (.inr (.inl (q, cs)))) : (mkM X S)[c]? = some (.inl (xR X q, cs.length, .inr (.inr (.inr (.inr (fun i => (cs[i]?).map (fun c' => xB X + c'))))))) := by rw [mkM_get, h]; rfl
theorem cellOf_up {X : xC} {S : St} {c c2 : Nat} {f : Nat → Int32} {t : LT} (h : c2 ≠ c) : cellOf X (va_up S c f) c2 t = cellOf X S c2 t := by
  unfold cellOf
  simp only [va_up, if_neg h]
theorem mkM_set {X : xC} {S : St} {c : Nat} {f : Nat → Int32} {t : LT} (h : lay[c]? = some t) : (mkM X S).set c (cellOf X (va_up S c f) c t) = mkM X (va_up S c f) := by
  apply List.ext_getElem?
  intro i
  by_cases hi : i = c
  · subst hi
    have hl : i < (mkM X S).length := by
      have h1 : (mkM X S)[i]? = some (cellOf X S i t) := by rw [mkM_get, h]; rfl
      exact (List.getElem?_eq_some_iff.mp h1).1
    rw [List.getElem?_set_self hl, mkM_get, h]
    rfl
  · rw [List.getElem?_set_ne (Ne.symm hi), mkM_get, mkM_get]
    cases hc : lay[i]? with
    | none => rfl
    | some u => simp only [Option.map_some, cellOf_up hi]
/-- one place of the store -/
def put (S : St) (c j : Nat) (x : Int32) : St := va_up S c (upd (S c) j x)
theorem mkM_arr_set {X : xC} {S : St} {c n : Nat} {f : Nat → Int32} (h : lay[c]? = some (.inl n)) : (mkM X S).set c (.inl (xI X, n, .inl f)) = mkM X (va_up S c f) := by
  rw [← mkM_set h]
  simp [cellOf, va_up]
theorem mkM_fld_set {X : xC} {S : St} {c ci j : Nat} {x : Int32} {fs : List (Option Nat)} (h : lay[c]? = some (.inr (.inr (ci, fs)))) (hj : fs[j]? = some none) : (mkM X S).set c (.inr (ci, ((List.range fs.length).map (fun j => fv X (S c j) (fs[j]?).join)).set j (.int x))) = mkM X (put S c j x) := by
  unfold put
  rw [← mkM_set h]
  congr 1
  simp only [cellOf, Sum.inr.injEq, Prod.mk.injEq, true_and]
  apply List.ext_getElem?
  intro i
  have hjl : j < fs.length := (List.getElem?_eq_some_iff.mp hj).1
  by_cases hi : i = j
  · subst hi
    rw [List.getElem?_set_self (by simpa using hjl)]
    rw [List.getElem?_map, List.getElem?_range hjl]
    simp [hj, va_up, upd, fv]
  · rw [List.getElem?_set_ne (Ne.symm hi)]
    by_cases hl : i < fs.length
    · simp [hl, va_up, upd, hi]
    · simp [hl]
def inb (i : Int32) (n : Nat) : Bool := decide (¬ (i < 0 ∨ n ≤ i.toNatClampNeg))
theorem inb_in {i : Int32} {n : Nat} (h : inb i n = true) : vp_in i n := by
  unfold inb at h
  unfold vp_in
  exact of_decide_eq_true h
def eI (q : Int32 × St) : Option Value × St := (some (.int q.1), q.2)
def eV (S : St) : Option Value × St := (none, S)
def eR (q : Nat × St) : Option Value × St := (some (.ref q.1), q.2)
/-- the judgement over the store: where the pure function answers, the method does -/
def SemG {α : Type} (emb : α → Option Value × St) (X : xC) (k : Mth) (d pc : Nat) (ls : List (Option Value)) (st : List Value) (S : St) (f : Option α) : Prop := ∀ a, f = some a → Sem X k d pc ls st (mkM X S) (emb a).1 (mkM X (emb a).2) 0 0
section G
variable {α : Type} {emb : α → Option Value × St} {X : xC} {k : Mth} {d pc pc' tgt : Nat} {ls : List (Option Value)} {st : List Value} {S : St} {f f2 : Option α}
theorem g_none : SemG emb X k d pc ls st S none := fun a h => by cases h
theorem g_guard {b : Bool} (kk : b = true → SemG emb X k d pc ls st S f) : SemG emb X k d pc ls st S (if b = true then f else none) := by
  intro a h
  by_cases hb : b = true
  · rw [if_pos hb] at h; exact kk hb a h
  · rw [if_neg hb] at h; cases h
theorem g_ite {c : Prop} [Decidable c] (h1 : c → SemG emb X k d pc ls st S f) (h2 : ¬ c → SemG emb X k d pc ls st S f2) : SemG emb X k d pc ls st S (if c then f else f2) := by
  intro a h
  by_cases hc : c
  · rw [if_pos hc] at h; exact h1 hc a h
  · rw [if_neg hc] at h; exact h2 hc a h
theorem g_iconst {n : Int} {v : Int32} (hd : dI k.2.1 pc (.iconst n) 1 pc' ∧ Int32.ofInt n = v) (kk : SemG emb X k d pc' ls (.int v :: st) S f) : SemG emb X k d pc ls st S f := fun a ha => ev_iconst hd (kk a ha)
theorem g_bipush {n : Int} {v : Int32} (hd : dI k.2.1 pc (.bipush n) 2 pc' ∧ (Int8.ofInt n).toInt32 = v) (kk : SemG emb X k d pc' ls (.int v :: st) S f) : SemG emb X k d pc ls st S f := fun a ha => ev_bipush hd (kk a ha)
theorem g_sipush {n : Int} {v : Int32} (hd : dI k.2.1 pc (.sipush n) 3 pc' ∧ (Int16.ofInt n).toInt32 = v) (kk : SemG emb X k d pc' ls (.int v :: st) S f) : SemG emb X k d pc ls st S f := fun a ha => ev_sipush hd (kk a ha)
theorem g_ldc {idx : Nat} {v : Int32} (hd : dI k.2.1 pc (.ldc idx) 2 pc') (hw : Cond.constant k.1.cls idx v ∈ TG) (kk : SemG emb X k d pc' ls (.int v :: st) S f) : SemG emb X k d pc ls st S f := fun a ha => ev_ldc hd hw (kk a ha)
theorem g_iload_n {j : Fin 4} {x : Int32} (hd : dI k.2.1 pc (.iload_n j) 1 pc') (h : ls[(j : Nat)]? = some (some (.int x))) (kk : SemG emb X k d pc' ls (.int x :: st) S f) : SemG emb X k d pc ls st S f := fun a ha => ev_iload_n hd h (kk a ha)
theorem g_iload {j : Nat} {x : Int32} (hd : dI k.2.1 pc (.iload j) 2 pc') (h : ls[j]? = some (some (.int x))) (kk : SemG emb X k d pc' ls (.int x :: st) S f) : SemG emb X k d pc ls st S f := fun a ha => ev_iload hd h (kk a ha)
theorem g_aload_n {j : Fin 4} {x : Nat} (hd : dI k.2.1 pc (.aload_n j) 1 pc') (h : ls[(j : Nat)]? = some (some (.ref x))) (kk : SemG emb X k d pc' ls (.ref x :: st) S f) : SemG emb X k d pc ls st S f := fun a ha => ev_aload_n hd h (kk a ha)
theorem g_aload {j : Nat} {x : Nat} (hd : dI k.2.1 pc (.aload j) 2 pc') (h : ls[j]? = some (some (.ref x))) (kk : SemG emb X k d pc' ls (.ref x :: st) S f) : SemG emb X k d pc ls st S f := fun a ha => ev_aload hd h (kk a ha)
theorem g_istore_n {j : Fin 4} {x : Int32} (hd : dI k.2.1 pc (.istore_n j) 1 pc') (hj : (j : Nat) < k.2.2.1) (kk : SemG emb X k d pc' (ls.set (j : Nat) (some (.int x))) st S f) : SemG emb X k d pc ls (.int x :: st) S f := fun a ha => ev_istore_n hd hj (kk a ha)
theorem g_istore {j : Nat} {x : Int32} (hd : dI k.2.1 pc (.istore j) 2 pc') (hj : j < k.2.2.1) (kk : SemG emb X k d pc' (ls.set j (some (.int x))) st S f) : SemG emb X k d pc ls (.int x :: st) S f := fun a ha => ev_istore hd hj (kk a ha)
theorem g_astore_n {j : Fin 4} {x : Nat} (hd : dI k.2.1 pc (.astore_n j) 1 pc') (hj : (j : Nat) < k.2.2.1) (kk : SemG emb X k d pc' (ls.set (j : Nat) (some (.ref x))) st S f) : SemG emb X k d pc ls (.ref x :: st) S f := fun a ha => ev_astore_n hd hj (kk a ha)
theorem g_astore {j : Nat} {x : Nat} (hd : dI k.2.1 pc (.astore j) 2 pc') (hj : j < k.2.2.1) (kk : SemG emb X k d pc' (ls.set j (some (.ref x))) st S f) : SemG emb X k d pc ls (.ref x :: st) S f := fun a ha => ev_astore hd hj (kk a ha)
theorem g_iinc {j : Nat} {n : Int} {x v : Int32} (hd : dI k.2.1 pc (.iinc j n) 3 pc' ∧ Int32.ofInt n = v) (hj : j < k.2.2.1) (h : ls[j]? = some (some (.int x))) (kk : SemG emb X k d pc' (ls.set j (some (.int (x + v)))) st S f) : SemG emb X k d pc ls st S f := fun a ha => ev_iinc hd hj h (kk a ha)
theorem g_iadd {x y : Int32} (hd : dI k.2.1 pc .iadd 1 pc') (kk : SemG emb X k d pc' ls (.int (x + y) :: st) S f) : SemG emb X k d pc ls (.int y :: .int x :: st) S f := fun a ha => ev_iadd hd (kk a ha)
theorem g_isub {x y : Int32} (hd : dI k.2.1 pc .isub 1 pc') (kk : SemG emb X k d pc' ls (.int (x - y) :: st) S f) : SemG emb X k d pc ls (.int y :: .int x :: st) S f := fun a ha => ev_isub hd (kk a ha)
theorem g_imul {x y : Int32} (hd : dI k.2.1 pc .imul 1 pc') (kk : SemG emb X k d pc' ls (.int (x * y) :: st) S f) : SemG emb X k d pc ls (.int y :: .int x :: st) S f := fun a ha => ev_imul hd (kk a ha)
theorem g_iand {x y : Int32} (hd : dI k.2.1 pc .iand 1 pc') (kk : SemG emb X k d pc' ls (.int (x &&& y) :: st) S f) : SemG emb X k d pc ls (.int y :: .int x :: st) S f := fun a ha => ev_iand hd (kk a ha)
theorem g_ishl {x y : Int32} (hd : dI k.2.1 pc .ishl 1 pc') (kk : SemG emb X k d pc' ls (.int (x <<< (y &&& 31)) :: st) S f) : SemG emb X k d pc ls (.int y :: .int x :: st) S f := fun a ha => ev_ishl hd (kk a ha)
theorem g_ishr {x y : Int32} (hd : dI k.2.1 pc .ishr 1 pc') (kk : SemG emb X k d pc' ls (.int (x >>> (y &&& 31)) :: st) S f) : SemG emb X k d pc ls (.int y :: .int x :: st) S f := fun a ha => ev_ishr hd (kk a ha)
theorem g_idiv {x y : Int32} (hd : dI k.2.1 pc .idiv 1 pc') (hy : ¬ y = 0) (kk : SemG emb X k d pc' ls (.int (x / y) :: st) S f) : SemG emb X k d pc ls (.int y :: .int x :: st) S f := fun a ha => ev_idiv hd hy (kk a ha)
theorem g_irem {x y : Int32} (hd : dI k.2.1 pc .irem 1 pc') (hy : ¬ y = 0) (kk : SemG emb X k d pc' ls (.int (x - x / y * y) :: st) S f) : SemG emb X k d pc ls (.int y :: .int x :: st) S f := fun a ha => ev_irem hd hy (kk a ha)
theorem g_iushr {x y : Int32} (hd : dI k.2.1 pc .iushr 1 pc') (kk : SemG emb X k d pc' ls (.int ((x.toUInt32 >>> (y.toUInt32 &&& Int32.toUInt32 31)).toInt32) :: st) S f) : SemG emb X k d pc ls (.int y :: .int x :: st) S f := fun a ha => ev_iushr hd (kk a ha)
theorem g_i2b {x : Int32} (hd : dI k.2.1 pc .i2b 1 pc') (kk : SemG emb X k d pc' ls (.int (x.toInt8.toInt32) :: st) S f) : SemG emb X k d pc ls (.int x :: st) S f := fun a ha => ev_i2b hd (kk a ha)
theorem g_i2s {x : Int32} (hd : dI k.2.1 pc .i2s 1 pc') (kk : SemG emb X k d pc' ls (.int (x.toInt16.toInt32) :: st) S f) : SemG emb X k d pc ls (.int x :: st) S f := fun a ha => ev_i2s hd (kk a ha)
theorem g_i2c {x : Int32} (hd : dI k.2.1 pc .i2c 1 pc') (kk : SemG emb X k d pc' ls (.int ((x.toUInt32 % 65536).toInt32) :: st) S f) : SemG emb X k d pc ls (.int x :: st) S f := fun a ha => ev_i2c hd (kk a ha)
theorem g_dup {a : Value} (hd : dI k.2.1 pc .dup 1 pc') (h1 : a.category = 1) (kk : SemG emb X k d pc' ls (a :: a :: st) S f) : SemG emb X k d pc ls (a :: st) S f := fun a ha => ev_dup hd h1 (kk a ha)
theorem g_dup_x1 {a b : Value} (hd : dI k.2.1 pc .dup_x1 1 pc') (h1 : a.category = 1) (h2 : b.category = 1) (kk : SemG emb X k d pc' ls (a :: b :: a :: st) S f) : SemG emb X k d pc ls (a :: b :: st) S f := fun a ha => ev_dup_x1 hd h1 h2 (kk a ha)
theorem g_dup2 {a b : Value} (hd : dI k.2.1 pc .dup2 1 pc') (h1 : a.category = 1) (h2 : b.category = 1) (kk : SemG emb X k d pc' ls (a :: b :: a :: b :: st) S f) : SemG emb X k d pc ls (a :: b :: st) S f := fun a ha => ev_dup2 hd h1 h2 (kk a ha)
theorem g_pop {a : Value} (hd : dI k.2.1 pc .pop 1 pc') (h1 : a.category = 1) (kk : SemG emb X k d pc' ls (st) S f) : SemG emb X k d pc ls (a :: st) S f := fun a ha => ev_pop hd h1 (kk a ha)
theorem g_goto {off : Int} (hd : dJ k.2.1 pc (.goto off) off pc' tgt) (kk : SemG emb X k d tgt ls st S f) : SemG emb X k d pc ls st S f := fun a ha => ev_goto hd (kk a ha)
theorem g_table_in {dflt lo hi : Int} {offs : Array Int} {len : Nat} {x : Int32} {off : Int} (hd : decode k.2.1 pc = .ok (.tableswitch dflt lo hi offs, len)) (h1 : ¬ x.toInt < lo) (h2 : ¬ hi < x.toInt) (ho : offs[(x.toInt - lo).toNat]? = some off) (ht : (pc : Int) + off = (tgt : Int)) (kk : SemG emb X k d tgt ls st S f) : SemG emb X k d pc ls (.int x :: st) S f := fun a ha => ev_table_in hd h1 h2 ho ht (kk a ha)
theorem g_table_out {dflt lo hi : Int} {offs : Array Int} {len : Nat} {x : Int32} (hd : decode k.2.1 pc = .ok (.tableswitch dflt lo hi offs, len)) (h : x.toInt < lo ∨ hi < x.toInt) (ht : (pc : Int) + dflt = (tgt : Int)) (kk : SemG emb X k d tgt ls st S f) : SemG emb X k d pc ls (.int x :: st) S f := fun a ha => ev_table_out hd h ht (kk a ha)
theorem g_lookup {dflt : Int} {ps : Array (Int × Int)} {len : Nat} {x : Int32} {off : Int} (hd : decode k.2.1 pc = .ok (.lookupswitch dflt ps, len)) (hp : (ps.toList.zip (ps.toList.drop 1)).all (fun (a, next) => a.1 < next.1) = true) (ho : Op.lookupswitch.offset ps.toList dflt x.toInt = off) (ht : (pc : Int) + off = (tgt : Int)) (kk : SemG emb X k d tgt ls st S f) : SemG emb X k d pc ls (.int x :: st) S f := fun a ha => ev_lookup hd hp ho ht (kk a ha)
theorem g_icmp_eq {x y : Int32} {off : Int} (hd : dJ k.2.1 pc (.if_icmp .eq off) off pc' tgt) (kt : x = y → SemG emb X k d tgt ls st S f) (kf : ¬ x = y → SemG emb X k d pc' ls st S f) : SemG emb X k d pc ls (.int y :: .int x :: st) S f := fun a ha => ev_icmp_eq hd (fun h => kt h a ha) (fun h => kf h a ha)
theorem g_if_eq {x : Int32} {off : Int} (hd : dJ k.2.1 pc (.ifCond .eq off) off pc' tgt) (kt : x = 0 → SemG emb X k d tgt ls st S f) (kf : ¬ x = 0 → SemG emb X k d pc' ls st S f) : SemG emb X k d pc ls (.int x :: st) S f := fun a ha => ev_if_eq hd (fun h => kt h a ha) (fun h => kf h a ha)
theorem g_icmp_ne {x y : Int32} {off : Int} (hd : dJ k.2.1 pc (.if_icmp .ne off) off pc' tgt) (kt : ¬ x = y → SemG emb X k d tgt ls st S f) (kf : x = y → SemG emb X k d pc' ls st S f) : SemG emb X k d pc ls (.int y :: .int x :: st) S f := fun a ha => ev_icmp_ne hd (fun h => kt h a ha) (fun h => kf h a ha)
theorem g_if_ne {x : Int32} {off : Int} (hd : dJ k.2.1 pc (.ifCond .ne off) off pc' tgt) (kt : ¬ x = 0 → SemG emb X k d tgt ls st S f) (kf : x = 0 → SemG emb X k d pc' ls st S f) : SemG emb X k d pc ls (.int x :: st) S f := fun a ha => ev_if_ne hd (fun h => kt h a ha) (fun h => kf h a ha)
theorem g_icmp_lt {x y : Int32} {off : Int} (hd : dJ k.2.1 pc (.if_icmp .lt off) off pc' tgt) (kt : x < y → SemG emb X k d tgt ls st S f) (kf : ¬ x < y → SemG emb X k d pc' ls st S f) : SemG emb X k d pc ls (.int y :: .int x :: st) S f := fun a ha => ev_icmp_lt hd (fun h => kt h a ha) (fun h => kf h a ha)
theorem g_if_lt {x : Int32} {off : Int} (hd : dJ k.2.1 pc (.ifCond .lt off) off pc' tgt) (kt : x < 0 → SemG emb X k d tgt ls st S f) (kf : ¬ x < 0 → SemG emb X k d pc' ls st S f) : SemG emb X k d pc ls (.int x :: st) S f := fun a ha => ev_if_lt hd (fun h => kt h a ha) (fun h => kf h a ha)
theorem g_icmp_ge {x y : Int32} {off : Int} (hd : dJ k.2.1 pc (.if_icmp .ge off) off pc' tgt) (kt : y ≤ x → SemG emb X k d tgt ls st S f) (kf : ¬ y ≤ x → SemG emb X k d pc' ls st S f) : SemG emb X k d pc ls (.int y :: .int x :: st) S f := fun a ha => ev_icmp_ge hd (fun h => kt h a ha) (fun h => kf h a ha)
theorem g_if_ge {x : Int32} {off : Int} (hd : dJ k.2.1 pc (.ifCond .ge off) off pc' tgt) (kt : 0 ≤ x → SemG emb X k d tgt ls st S f) (kf : ¬ 0 ≤ x → SemG emb X k d pc' ls st S f) : SemG emb X k d pc ls (.int x :: st) S f := fun a ha => ev_if_ge hd (fun h => kt h a ha) (fun h => kf h a ha)
theorem g_icmp_gt {x y : Int32} {off : Int} (hd : dJ k.2.1 pc (.if_icmp .gt off) off pc' tgt) (kt : y < x → SemG emb X k d tgt ls st S f) (kf : ¬ y < x → SemG emb X k d pc' ls st S f) : SemG emb X k d pc ls (.int y :: .int x :: st) S f := fun a ha => ev_icmp_gt hd (fun h => kt h a ha) (fun h => kf h a ha)
theorem g_if_gt {x : Int32} {off : Int} (hd : dJ k.2.1 pc (.ifCond .gt off) off pc' tgt) (kt : 0 < x → SemG emb X k d tgt ls st S f) (kf : ¬ 0 < x → SemG emb X k d pc' ls st S f) : SemG emb X k d pc ls (.int x :: st) S f := fun a ha => ev_if_gt hd (fun h => kt h a ha) (fun h => kf h a ha)
theorem g_icmp_le {x y : Int32} {off : Int} (hd : dJ k.2.1 pc (.if_icmp .le off) off pc' tgt) (kt : x ≤ y → SemG emb X k d tgt ls st S f) (kf : ¬ x ≤ y → SemG emb X k d pc' ls st S f) : SemG emb X k d pc ls (.int y :: .int x :: st) S f := fun a ha => ev_icmp_le hd (fun h => kt h a ha) (fun h => kf h a ha)
theorem g_if_le {x : Int32} {off : Int} (hd : dJ k.2.1 pc (.ifCond .le off) off pc' tgt) (kt : x ≤ 0 → SemG emb X k d tgt ls st S f) (kf : ¬ x ≤ 0 → SemG emb X k d pc' ls st S f) : SemG emb X k d pc ls (.int x :: st) S f := fun a ha => ev_if_le hd (fun h => kt h a ha) (fun h => kf h a ha)
theorem g_ireturn {f : Option (Int32 × St)} {v : Int32} {ty : FieldType} (hd : decode k.2.1 pc = .ok (.ireturn, 1)) (ht : k.2.2.2 = some ty) (hn : narrow ty (.int v) = .int v) (hf : f = some (v, S)) : SemG eI X k d pc ls [.int v] S f := by
  subst hf
  intro a h
  cases h
  exact ev_ireturn hd ht hn
theorem g_return {f : Option St} (hd : decode k.2.1 pc = .ok (.return_, 1)) (ht : k.2.2.2 = none) (hf : f = some S) : SemG eV X k d pc ls [] S f := by
  subst hf
  intro a h
  cases h
  exact ev_return hd ht
theorem g_areturn {f : Option (Nat × St)} {v : Nat} {nm : String} (hd : decode k.2.1 pc = .ok (.areturn, 1)) (ht : k.2.2.2 = some (.object nm)) (hf : f = some (v, S)) : SemG eR X k d pc ls [.ref v] S f := by
  subst hf
  intro a h
  cases h
  exact ev_areturn hd ht
theorem g_getR {idx c ci j c' : Nat} {fs : List (Option Nat)} (hd : dI k.2.1 pc (.getfield idx) 3 pc') (hf : FLk k.1.cls idx ci j) (hc : lay[c]? = some (.inr (.inr (ci, fs)))) (hj : fs[j]? = some (some c')) (kk : SemG emb X k d pc' ls (.ref (xB X + c') :: st) S f) : SemG emb X k d pc ls (.ref (xB X + c) :: st) S f := by
  intro a ha
  have hjl : j < fs.length := (List.getElem?_eq_some_iff.mp hj).1
  refine ev_get hd hf (mkM_obj hc) (v := .ref (xB X + c')) ?_ (kk a ha)
  rw [List.getElem?_map, List.getElem?_range hjl]
  simp only [Option.map_some, hj, Option.join_some, fv]
theorem g_getI {idx c ci j : Nat} {fs : List (Option Nat)} (hd : dI k.2.1 pc (.getfield idx) 3 pc') (hf : FLk k.1.cls idx ci j) (hc : lay[c]? = some (.inr (.inr (ci, fs)))) (hj : fs[j]? = some none) (kk : SemG emb X k d pc' ls (.int (S c j) :: st) S f) : SemG emb X k d pc ls (.ref (xB X + c) :: st) S f := by
  intro a ha
  have hjl : j < fs.length := (List.getElem?_eq_some_iff.mp hj).1
  refine ev_get hd hf (mkM_obj hc) (v := .int (S c j)) ?_ (kk a ha)
  rw [List.getElem?_map, List.getElem?_range hjl]
  simp only [Option.map_some, hj, Option.join_some, fv]
theorem g_putI {idx c ci j : Nat} {x : Int32} {fs : List (Option Nat)} (hd : dI k.2.1 pc (.putfield idx) 3 pc') (hf : FLk k.1.cls idx ci j) (hfin : FinK ci j false) (hc : lay[c]? = some (.inr (.inr (ci, fs)))) (hj : fs[j]? = some none) (hn : narrow (clsT ci j) (.int x) = .int x) (hfit : fits (clsT ci j) (.int x) = true) (kk : SemG emb X k d pc' ls st (put S c j x) f) : SemG emb X k d pc ls (.int x :: .ref (xB X + c) :: st) S f := by
  intro a ha
  have hjl : j < fs.length := (List.getElem?_eq_some_iff.mp hj).1
  refine ev_put hd hf hfin (mkM_obj hc) hn hfit (by simpa using hjl) ?_
  rw [mkM_fld_set hc hj]
  exact kk a ha
theorem g_ild {c n j : Nat} {i : Int32} (hd : dI k.2.1 pc .iaload 1 pc') (hc : lay[c]? = some (.inl n)) (hi : inb i n = true) (hj : i.toNatClampNeg = j) (kk : SemG emb X k d pc' ls (.int (S c j) :: st) S f) : SemG emb X k d pc ls (.int i :: .ref (xB X + c) :: st) S f := by
  subst hj
  exact fun a ha => ev_iald hd (mkM_arr hc) (inb_in hi) (kk a ha)
theorem g_ist {c n j : Nat} {i x : Int32} (hd : dI k.2.1 pc .iastore 1 pc') (hc : lay[c]? = some (.inl n)) (hi : inb i n = true) (hj : i.toNatClampNeg = j) (kk : SemG emb X k d pc' ls st (put S c j x) f) : SemG emb X k d pc ls (.int x :: .int i :: .ref (xB X + c) :: st) S f := by
  subst hj
  intro a ha
  refine ev_iast hd (mkM_arr hc) (inb_in hi) ?_
  rw [mkM_arr_set hc]
  exact kk a ha
theorem g_ald {c q t c' : Nat} {Cn : String} {cs : List Nat} {i : Int32} (hd : dI k.2.1 pc .aaload 1 pc') (hc : lay[c]? = some (.inr (.inl (q, cs)))) (ht : (xTys X)[t]? = some (xR X q, .object Cn)) (hi : inb i cs.length = true) (hj : cs[i.toNatClampNeg]? = some c') (kk : SemG emb X k d pc' ls (.ref (xB X + c') :: st) S f) : SemG emb X k d pc ls (.int i :: .ref (xB X + c) :: st) S f := by
  intro a ha
  exact ev_aald hd (mkM_rar hc) ht (inb_in hi) (by rw [hj]; rfl) (kk a ha)
theorem g_alen {c n : Nat} {v : Int32} (hd : dI k.2.1 pc .arraylength 1 pc') (hc : lay[c]? = some (.inl n)) (hv : Int32.ofNat n = v) (kk : SemG emb X k d pc' ls (.int v :: st) S f) : SemG emb X k d pc ls (.ref (xB X + c) :: st) S f :=
  fun a ha => ev_alen hd (mkM_arr hc) hv (kk a ha)
theorem g_mmax {idx : Nat} {x y : Int32} (hd : dI k.2.1 pc (.invokestatic idx) 3 pc') (hw : Cond.methodLink k.1.cls idx Lib.Math.max.name ∈ TG) (hst : (st.map fun v => v.category).sum ≤ 8) (kk : SemG emb X k (d + 1) pc' ls (.int (if x < y then y else x) :: st) S f) : SemG emb X k (d + 1) pc ls (.int y :: .int x :: st) S f := fun a ha => ev_mmax hd hw hst (kk a ha)
theorem g_mmin {idx : Nat} {x y : Int32} (hd : dI k.2.1 pc (.invokestatic idx) 3 pc') (hw : Cond.methodLink k.1.cls idx Lib.Math.min.name ∈ TG) (hst : (st.map fun v => v.category).sum ≤ 8) (kk : SemG emb X k (d + 1) pc' ls (.int (if y < x then y else x) :: st) S f) : SemG emb X k (d + 1) pc ls (.int y :: .int x :: st) S f := fun a ha => ev_mmin hd hw hst (kk a ha)
/-- may so many be copied from one place on to another -/
def cpok (sp dp n : Int32) (n0 n1 : Nat) : Bool := decide (¬ sp < 0) && decide (¬ dp < 0) && decide (¬ n < 0) && decide (sp.toNatClampNeg + n.toNatClampNeg ≤ n0) && decide (dp.toNatClampNeg + n.toNatClampNeg ≤ n1)
def cpy (S : St) (c0 c1 : Nat) (sp dp n : Int32) : St := va_up S c1 (va_cpy (S c0) (S c1) sp.toNatClampNeg dp.toNatClampNeg n.toNatClampNeg)
theorem g_copy {idx c0 c1 n0 n1 : Nat} {sp dp n : Int32} (hd : dI k.2.1 pc (.invokestatic idx) 3 pc') (hw : Cond.methodLink k.1.cls idx arraycopyName ∈ TG) (hst : (st.map fun v => v.category).sum ≤ 8) (hc0 : lay[c0]? = some (.inl n0)) (hc1 : lay[c1]? = some (.inl n1)) (hok : cpok sp dp n n0 n1 = true) (kk : SemG emb X k (d + 1) pc' ls st (cpy S c0 c1 sp dp n) f) : SemG emb X k (d + 1) pc ls (.int n :: .int dp :: .ref (xB X + c1) :: .int sp :: .ref (xB X + c0) :: st) S f := by
  intro a ha
  simp only [cpok, Bool.and_eq_true, decide_eq_true_eq] at hok
  obtain ⟨⟨⟨⟨h1, h2⟩, h3⟩, h4⟩, h5⟩ := hok
  refine ev_copy hd hw hst (mkM_arr hc0) (mkM_arr hc1) h1 h2 h3 h4 h5 ?_
  rw [mkM_arr_set hc1]
  exact kk a ha
def lsub : List (Option Value) → List (Option Value) → Prop
  | [], _ => True
  | none :: a, _ :: b => lsub a b
  | none :: a, [] => lsub a []
  | some _ :: _, [] => False
  | some v :: a, w :: b => some v = w ∧ lsub a b
theorem lsub_get : ∀ (a b : List (Option Value)), lsub a b → ∀ (i : Nat) (v : Value), a[i]? = some (some v) → b[i]? = some (some v)
  | [], b, _, i, v, hi => by simp at hi
  | none :: a, w :: b, h, 0, v, hi => by simp at hi
  | none :: a, w :: b, h, i + 1, v, hi => by
    rw [List.getElem?_cons_succ] at hi ⊢
    exact lsub_get a b h i v hi
  | none :: a, [], h, 0, v, hi => by simp at hi
  | none :: a, [], h, i + 1, v, hi => by
    rw [List.getElem?_cons_succ] at hi
    have := lsub_get a [] h i v hi
    simp at this
  | some u :: a, w :: b, h, 0, v, hi => by
    rw [List.getElem?_cons_zero] at hi ⊢
    rw [← h.1]; exact hi
  | some u :: a, w :: b, h, i + 1, v, hi => by
    rw [List.getElem?_cons_succ] at hi ⊢
    exact lsub_get a b h.2 i v hi
theorem g_less {ls2 : List (Option Value)} (h : lsub ls2 ls) (kk : SemG emb X k d pc ls2 st S f) : SemG emb X k d pc ls st S f := by
  intro a ha p l e R s m args below meth c C H locs cells slots hW hS hc hs la hl
  exact kk a ha p l e R s m args below meth c C H locs cells slots hW hS hc hs la ⟨hl.1, fun i v hi => hl.2 i v (lsub_get _ _ h i v hi)⟩
def VcK (ci : Nat) (k2 : Mth) : Prop := ∃ q : vw_C, cls[ci]? = some q ∧ q.1 = k2.1.cls
theorem g_callV0I {k2 : Mth} {idx c ci : Nat} {fs : List (Option Nat)} {g : Option (Int32 × St)} {ff : (Int32 × St) → Option α} (hd : dI k.2.1 pc (.invokevirtual idx) 3 pc') (hw : Cond.methodLink k.1.cls idx k2.1 ∈ TG) (hk : VirK k2 0) (hc : lay[c]? = some (.inr (.inr (ci, fs)))) (hv : VcK ci k2)  (hst : (st.map fun v => v.category).sum ≤ 8) (h : SemG eI X k2 d 0 (ini k2 (.ref (xB X + c) :: [])) [] S g) (kk : ∀ q, SemG emb X k (d + 1) pc' ls (.int q.1 :: st) q.2 (ff q)) : SemG emb X k (d + 1) pc ls (.ref (xB X + c) :: st) S (g.bind ff) := by
  intro a ha
  obtain ⟨q, hq, ha⟩ := Option.bind_eq_some_iff.mp ha
  obtain ⟨qc, h1, h2⟩ := hv
  exact ev_callV (As := []) hd hw hk (mkM_obj hc) h1 h2 (fun v hv => by cases hv) hst (h q hq) (kk q a ha)
theorem g_callS0I {k2 : Mth} {idx : Nat} {g : Option (Int32 × St)} {ff : (Int32 × St) → Option α} (hd : dI k.2.1 pc (.invokestatic idx) 3 pc') (hw : Cond.methodLink k.1.cls idx k2.1 ∈ TG) (hk : StaK k2 0)  (hst : (st.map fun v => v.category).sum ≤ 8) (h : SemG eI X k2 d 0 (ini k2 []) [] S g) (kk : ∀ q, SemG emb X k (d + 1) pc' ls (.int q.1 :: st) q.2 (ff q)) : SemG emb X k (d + 1) pc ls (st) S (g.bind ff) := by
  intro a ha
  obtain ⟨q, hq, ha⟩ := Option.bind_eq_some_iff.mp ha
  exact ev_callS (As := []) hd hw hk (fun v hv => by cases hv) hst (h q hq) (kk q a ha)
theorem g_callN0I {k2 : Mth} {idx : Nat} {g : Option (Int32 × St)} {ff : (Int32 × St) → Option α} (hd : dI k.2.1 pc (.invokestatic idx) 3 pc') {host : String} (hw : (k.1.cls, idx, k2.1, host) ∈ nests) (hk : StaK k2 0)  (hst : (st.map fun v => v.category).sum ≤ 8) (h : SemG eI X k2 d 0 (ini k2 []) [] S g) (kk : ∀ q, SemG emb X k (d + 1) pc' ls (.int q.1 :: st) q.2 (ff q)) : SemG emb X k (d + 1) pc ls (st) S (g.bind ff) := by
  intro a ha
  obtain ⟨q, hq, ha⟩ := Option.bind_eq_some_iff.mp ha
  exact ev_callSN (As := []) hd hw hk (fun v hv => by cases hv) hst (h q hq) (kk q a ha)
theorem g_callV0V {k2 : Mth} {idx c ci : Nat} {fs : List (Option Nat)} {g : Option (St)} {ff : St → Option α} (hd : dI k.2.1 pc (.invokevirtual idx) 3 pc') (hw : Cond.methodLink k.1.cls idx k2.1 ∈ TG) (hk : VirK k2 0) (hc : lay[c]? = some (.inr (.inr (ci, fs)))) (hv : VcK ci k2)  (hst : (st.map fun v => v.category).sum ≤ 8) (h : SemG eV X k2 d 0 (ini k2 (.ref (xB X + c) :: [])) [] S g) (kk : ∀ q, SemG emb X k (d + 1) pc' ls (st) q (ff q)) : SemG emb X k (d + 1) pc ls (.ref (xB X + c) :: st) S (g.bind ff) := by
  intro a ha
  obtain ⟨q, hq, ha⟩ := Option.bind_eq_some_iff.mp ha
  obtain ⟨qc, h1, h2⟩ := hv
  exact ev_callV (As := []) hd hw hk (mkM_obj hc) h1 h2 (fun v hv => by cases hv) hst (h q hq) (kk q a ha)
theorem g_callS0V {k2 : Mth} {idx : Nat} {g : Option (St)} {ff : St → Option α} (hd : dI k.2.1 pc (.invokestatic idx) 3 pc') (hw : Cond.methodLink k.1.cls idx k2.1 ∈ TG) (hk : StaK k2 0)  (hst : (st.map fun v => v.category).sum ≤ 8) (h : SemG eV X k2 d 0 (ini k2 []) [] S g) (kk : ∀ q, SemG emb X k (d + 1) pc' ls (st) q (ff q)) : SemG emb X k (d + 1) pc ls (st) S (g.bind ff) := by
  intro a ha
  obtain ⟨q, hq, ha⟩ := Option.bind_eq_some_iff.mp ha
  exact ev_callS (As := []) hd hw hk (fun v hv => by cases hv) hst (h q hq) (kk q a ha)
theorem g_callN0V {k2 : Mth} {idx : Nat} {g : Option (St)} {ff : St → Option α} (hd : dI k.2.1 pc (.invokestatic idx) 3 pc') {host : String} (hw : (k.1.cls, idx, k2.1, host) ∈ nests) (hk : StaK k2 0)  (hst : (st.map fun v => v.category).sum ≤ 8) (h : SemG eV X k2 d 0 (ini k2 []) [] S g) (kk : ∀ q, SemG emb X k (d + 1) pc' ls (st) q (ff q)) : SemG emb X k (d + 1) pc ls (st) S (g.bind ff) := by
  intro a ha
  obtain ⟨q, hq, ha⟩ := Option.bind_eq_some_iff.mp ha
  exact ev_callSN (As := []) hd hw hk (fun v hv => by cases hv) hst (h q hq) (kk q a ha)
theorem g_callV1I {a1 : Value} {k2 : Mth} {idx c ci : Nat} {fs : List (Option Nat)} {g : Option (Int32 × St)} {ff : (Int32 × St) → Option α} (hd : dI k.2.1 pc (.invokevirtual idx) 3 pc') (hw : Cond.methodLink k.1.cls idx k2.1 ∈ TG) (hk : VirK k2 1) (hc : lay[c]? = some (.inr (.inr (ci, fs)))) (hv : VcK ci k2) (e1 : a1.category = 1) (hst : (st.map fun v => v.category).sum ≤ 8) (h : SemG eI X k2 d 0 (ini k2 (.ref (xB X + c) :: [a1])) [] S g) (kk : ∀ q, SemG emb X k (d + 1) pc' ls (.int q.1 :: st) q.2 (ff q)) : SemG emb X k (d + 1) pc ls (a1 :: .ref (xB X + c) :: st) S (g.bind ff) := by
  intro a ha
  obtain ⟨q, hq, ha⟩ := Option.bind_eq_some_iff.mp ha
  obtain ⟨qc, h1, h2⟩ := hv
  exact ev_callV (As := [a1]) hd hw hk (mkM_obj hc) h1 h2 (cat_cons e1 (fun v hv => by cases hv)) hst (h q hq) (kk q a ha)
theorem g_callS1I {a1 : Value} {k2 : Mth} {idx : Nat} {g : Option (Int32 × St)} {ff : (Int32 × St) → Option α} (hd : dI k.2.1 pc (.invokestatic idx) 3 pc') (hw : Cond.methodLink k.1.cls idx k2.1 ∈ TG) (hk : StaK k2 1) (e1 : a1.category = 1) (hst : (st.map fun v => v.category).sum ≤ 8) (h : SemG eI X k2 d 0 (ini k2 [a1]) [] S g) (kk : ∀ q, SemG emb X k (d + 1) pc' ls (.int q.1 :: st) q.2 (ff q)) : SemG emb X k (d + 1) pc ls (a1 :: st) S (g.bind ff) := by
  intro a ha
  obtain ⟨q, hq, ha⟩ := Option.bind_eq_some_iff.mp ha
  exact ev_callS (As := [a1]) hd hw hk (cat_cons e1 (fun v hv => by cases hv)) hst (h q hq) (kk q a ha)
theorem g_callN1I {a1 : Value} {k2 : Mth} {idx : Nat} {g : Option (Int32 × St)} {ff : (Int32 × St) → Option α} (hd : dI k.2.1 pc (.invokestatic idx) 3 pc') {host : String} (hw : (k.1.cls, idx, k2.1, host) ∈ nests) (hk : StaK k2 1) (e1 : a1.category = 1) (hst : (st.map fun v => v.category).sum ≤ 8) (h : SemG eI X k2 d 0 (ini k2 [a1]) [] S g) (kk : ∀ q, SemG emb X k (d + 1) pc' ls (.int q.1 :: st) q.2 (ff q)) : SemG emb X k (d + 1) pc ls (a1 :: st) S (g.bind ff) := by
  intro a ha
  obtain ⟨q, hq, ha⟩ := Option.bind_eq_some_iff.mp ha
  exact ev_callSN (As := [a1]) hd hw hk (cat_cons e1 (fun v hv => by cases hv)) hst (h q hq) (kk q a ha)
theorem g_callV1V {a1 : Value} {k2 : Mth} {idx c ci : Nat} {fs : List (Option Nat)} {g : Option (St)} {ff : St → Option α} (hd : dI k.2.1 pc (.invokevirtual idx) 3 pc') (hw : Cond.methodLink k.1.cls idx k2.1 ∈ TG) (hk : VirK k2 1) (hc : lay[c]? = some (.inr (.inr (ci, fs)))) (hv : VcK ci k2) (e1 : a1.category = 1) (hst : (st.map fun v => v.category).sum ≤ 8) (h : SemG eV X k2 d 0 (ini k2 (.ref (xB X + c) :: [a1])) [] S g) (kk : ∀ q, SemG emb X k (d + 1) pc' ls (st) q (ff q)) : SemG emb X k (d + 1) pc ls (a1 :: .ref (xB X + c) :: st) S (g.bind ff) := by
  intro a ha
  obtain ⟨q, hq, ha⟩ := Option.bind_eq_some_iff.mp ha
  obtain ⟨qc, h1, h2⟩ := hv
  exact ev_callV (As := [a1]) hd hw hk (mkM_obj hc) h1 h2 (cat_cons e1 (fun v hv => by cases hv)) hst (h q hq) (kk q a ha)
theorem g_callS1V {a1 : Value} {k2 : Mth} {idx : Nat} {g : Option (St)} {ff : St → Option α} (hd : dI k.2.1 pc (.invokestatic idx) 3 pc') (hw : Cond.methodLink k.1.cls idx k2.1 ∈ TG) (hk : StaK k2 1) (e1 : a1.category = 1) (hst : (st.map fun v => v.category).sum ≤ 8) (h : SemG eV X k2 d 0 (ini k2 [a1]) [] S g) (kk : ∀ q, SemG emb X k (d + 1) pc' ls (st) q (ff q)) : SemG emb X k (d + 1) pc ls (a1 :: st) S (g.bind ff) := by
  intro a ha
  obtain ⟨q, hq, ha⟩ := Option.bind_eq_some_iff.mp ha
  exact ev_callS (As := [a1]) hd hw hk (cat_cons e1 (fun v hv => by cases hv)) hst (h q hq) (kk q a ha)
theorem g_callN1V {a1 : Value} {k2 : Mth} {idx : Nat} {g : Option (St)} {ff : St → Option α} (hd : dI k.2.1 pc (.invokestatic idx) 3 pc') {host : String} (hw : (k.1.cls, idx, k2.1, host) ∈ nests) (hk : StaK k2 1) (e1 : a1.category = 1) (hst : (st.map fun v => v.category).sum ≤ 8) (h : SemG eV X k2 d 0 (ini k2 [a1]) [] S g) (kk : ∀ q, SemG emb X k (d + 1) pc' ls (st) q (ff q)) : SemG emb X k (d + 1) pc ls (a1 :: st) S (g.bind ff) := by
  intro a ha
  obtain ⟨q, hq, ha⟩ := Option.bind_eq_some_iff.mp ha
  exact ev_callSN (As := [a1]) hd hw hk (cat_cons e1 (fun v hv => by cases hv)) hst (h q hq) (kk q a ha)
theorem g_callV1R {a1 : Value} {k2 : Mth} {idx c ci : Nat} {fs : List (Option Nat)} {g : Option (Nat × St)} {ff : (Nat × St) → Option α} (hd : dI k.2.1 pc (.invokevirtual idx) 3 pc') (hw : Cond.methodLink k.1.cls idx k2.1 ∈ TG) (hk : VirK k2 1) (hc : lay[c]? = some (.inr (.inr (ci, fs)))) (hv : VcK ci k2) (e1 : a1.category = 1) (hst : (st.map fun v => v.category).sum ≤ 8) (h : SemG eR X k2 d 0 (ini k2 (.ref (xB X + c) :: [a1])) [] S g) (kk : ∀ q, SemG emb X k (d + 1) pc' ls (.ref q.1 :: st) q.2 (ff q)) : SemG emb X k (d + 1) pc ls (a1 :: .ref (xB X + c) :: st) S (g.bind ff) := by
  intro a ha
  obtain ⟨q, hq, ha⟩ := Option.bind_eq_some_iff.mp ha
  obtain ⟨qc, h1, h2⟩ := hv
  exact ev_callV (As := [a1]) hd hw hk (mkM_obj hc) h1 h2 (cat_cons e1 (fun v hv => by cases hv)) hst (h q hq) (kk q a ha)
theorem g_callS1R {a1 : Value} {k2 : Mth} {idx : Nat} {g : Option (Nat × St)} {ff : (Nat × St) → Option α} (hd : dI k.2.1 pc (.invokestatic idx) 3 pc') (hw : Cond.methodLink k.1.cls idx k2.1 ∈ TG) (hk : StaK k2 1) (e1 : a1.category = 1) (hst : (st.map fun v => v.category).sum ≤ 8) (h : SemG eR X k2 d 0 (ini k2 [a1]) [] S g) (kk : ∀ q, SemG emb X k (d + 1) pc' ls (.ref q.1 :: st) q.2 (ff q)) : SemG emb X k (d + 1) pc ls (a1 :: st) S (g.bind ff) := by
  intro a ha
  obtain ⟨q, hq, ha⟩ := Option.bind_eq_some_iff.mp ha
  exact ev_callS (As := [a1]) hd hw hk (cat_cons e1 (fun v hv => by cases hv)) hst (h q hq) (kk q a ha)
theorem g_callN1R {a1 : Value} {k2 : Mth} {idx : Nat} {g : Option (Nat × St)} {ff : (Nat × St) → Option α} (hd : dI k.2.1 pc (.invokestatic idx) 3 pc') {host : String} (hw : (k.1.cls, idx, k2.1, host) ∈ nests) (hk : StaK k2 1) (e1 : a1.category = 1) (hst : (st.map fun v => v.category).sum ≤ 8) (h : SemG eR X k2 d 0 (ini k2 [a1]) [] S g) (kk : ∀ q, SemG emb X k (d + 1) pc' ls (.ref q.1 :: st) q.2 (ff q)) : SemG emb X k (d + 1) pc ls (a1 :: st) S (g.bind ff) := by
  intro a ha
  obtain ⟨q, hq, ha⟩ := Option.bind_eq_some_iff.mp ha
  exact ev_callSN (As := [a1]) hd hw hk (cat_cons e1 (fun v hv => by cases hv)) hst (h q hq) (kk q a ha)
theorem g_callV2I {a1 a2 : Value} {k2 : Mth} {idx c ci : Nat} {fs : List (Option Nat)} {g : Option (Int32 × St)} {ff : (Int32 × St) → Option α} (hd : dI k.2.1 pc (.invokevirtual idx) 3 pc') (hw : Cond.methodLink k.1.cls idx k2.1 ∈ TG) (hk : VirK k2 2) (hc : lay[c]? = some (.inr (.inr (ci, fs)))) (hv : VcK ci k2) (e1 : a1.category = 1) (e2 : a2.category = 1) (hst : (st.map fun v => v.category).sum ≤ 8) (h : SemG eI X k2 d 0 (ini k2 (.ref (xB X + c) :: [a1, a2])) [] S g) (kk : ∀ q, SemG emb X k (d + 1) pc' ls (.int q.1 :: st) q.2 (ff q)) : SemG emb X k (d + 1) pc ls (a2 :: a1 :: .ref (xB X + c) :: st) S (g.bind ff) := by
  intro a ha
  obtain ⟨q, hq, ha⟩ := Option.bind_eq_some_iff.mp ha
  obtain ⟨qc, h1, h2⟩ := hv
  exact ev_callV (As := [a1, a2]) hd hw hk (mkM_obj hc) h1 h2 (cat_cons e1 (cat_cons e2 (fun v hv => by cases hv))) hst (h q hq) (kk q a ha)
theorem g_callS2I {a1 a2 : Value} {k2 : Mth} {idx : Nat} {g : Option (Int32 × St)} {ff : (Int32 × St) → Option α} (hd : dI k.2.1 pc (.invokestatic idx) 3 pc') (hw : Cond.methodLink k.1.cls idx k2.1 ∈ TG) (hk : StaK k2 2) (e1 : a1.category = 1) (e2 : a2.category = 1) (hst : (st.map fun v => v.category).sum ≤ 8) (h : SemG eI X k2 d 0 (ini k2 [a1, a2]) [] S g) (kk : ∀ q, SemG emb X k (d + 1) pc' ls (.int q.1 :: st) q.2 (ff q)) : SemG emb X k (d + 1) pc ls (a2 :: a1 :: st) S (g.bind ff) := by
  intro a ha
  obtain ⟨q, hq, ha⟩ := Option.bind_eq_some_iff.mp ha
  exact ev_callS (As := [a1, a2]) hd hw hk (cat_cons e1 (cat_cons e2 (fun v hv => by cases hv))) hst (h q hq) (kk q a ha)
theorem g_callN2I {a1 a2 : Value} {k2 : Mth} {idx : Nat} {g : Option (Int32 × St)} {ff : (Int32 × St) → Option α} (hd : dI k.2.1 pc (.invokestatic idx) 3 pc') {host : String} (hw : (k.1.cls, idx, k2.1, host) ∈ nests) (hk : StaK k2 2) (e1 : a1.category = 1) (e2 : a2.category = 1) (hst : (st.map fun v => v.category).sum ≤ 8) (h : SemG eI X k2 d 0 (ini k2 [a1, a2]) [] S g) (kk : ∀ q, SemG emb X k (d + 1) pc' ls (.int q.1 :: st) q.2 (ff q)) : SemG emb X k (d + 1) pc ls (a2 :: a1 :: st) S (g.bind ff) := by
  intro a ha
  obtain ⟨q, hq, ha⟩ := Option.bind_eq_some_iff.mp ha
  exact ev_callSN (As := [a1, a2]) hd hw hk (cat_cons e1 (cat_cons e2 (fun v hv => by cases hv))) hst (h q hq) (kk q a ha)
theorem g_callV2V {a1 a2 : Value} {k2 : Mth} {idx c ci : Nat} {fs : List (Option Nat)} {g : Option (St)} {ff : St → Option α} (hd : dI k.2.1 pc (.invokevirtual idx) 3 pc') (hw : Cond.methodLink k.1.cls idx k2.1 ∈ TG) (hk : VirK k2 2) (hc : lay[c]? = some (.inr (.inr (ci, fs)))) (hv : VcK ci k2) (e1 : a1.category = 1) (e2 : a2.category = 1) (hst : (st.map fun v => v.category).sum ≤ 8) (h : SemG eV X k2 d 0 (ini k2 (.ref (xB X + c) :: [a1, a2])) [] S g) (kk : ∀ q, SemG emb X k (d + 1) pc' ls (st) q (ff q)) : SemG emb X k (d + 1) pc ls (a2 :: a1 :: .ref (xB X + c) :: st) S (g.bind ff) := by
  intro a ha
  obtain ⟨q, hq, ha⟩ := Option.bind_eq_some_iff.mp ha
  obtain ⟨qc, h1, h2⟩ := hv
  exact ev_callV (As := [a1, a2]) hd hw hk (mkM_obj hc) h1 h2 (cat_cons e1 (cat_cons e2 (fun v hv => by cases hv))) hst (h q hq) (kk q a ha)
theorem g_callS2V {a1 a2 : Value} {k2 : Mth} {idx : Nat} {g : Option (St)} {ff : St → Option α} (hd : dI k.2.1 pc (.invokestatic idx) 3 pc') (hw : Cond.methodLink k.1.cls idx k2.1 ∈ TG) (hk : StaK k2 2) (e1 : a1.category = 1) (e2 : a2.category = 1) (hst : (st.map fun v => v.category).sum ≤ 8) (h : SemG eV X k2 d 0 (ini k2 [a1, a2]) [] S g) (kk : ∀ q, SemG emb X k (d + 1) pc' ls (st) q (ff q)) : SemG emb X k (d + 1) pc ls (a2 :: a1 :: st) S (g.bind ff) := by
  intro a ha
  obtain ⟨q, hq, ha⟩ := Option.bind_eq_some_iff.mp ha
  exact ev_callS (As := [a1, a2]) hd hw hk (cat_cons e1 (cat_cons e2 (fun v hv => by cases hv))) hst (h q hq) (kk q a ha)
theorem g_callN2V {a1 a2 : Value} {k2 : Mth} {idx : Nat} {g : Option (St)} {ff : St → Option α} (hd : dI k.2.1 pc (.invokestatic idx) 3 pc') {host : String} (hw : (k.1.cls, idx, k2.1, host) ∈ nests) (hk : StaK k2 2) (e1 : a1.category = 1) (e2 : a2.category = 1) (hst : (st.map fun v => v.category).sum ≤ 8) (h : SemG eV X k2 d 0 (ini k2 [a1, a2]) [] S g) (kk : ∀ q, SemG emb X k (d + 1) pc' ls (st) q (ff q)) : SemG emb X k (d + 1) pc ls (a2 :: a1 :: st) S (g.bind ff) := by
  intro a ha
  obtain ⟨q, hq, ha⟩ := Option.bind_eq_some_iff.mp ha
  exact ev_callSN (As := [a1, a2]) hd hw hk (cat_cons e1 (cat_cons e2 (fun v hv => by cases hv))) hst (h q hq) (kk q a ha)
theorem g_callV3I {a1 a2 a3 : Value} {k2 : Mth} {idx c ci : Nat} {fs : List (Option Nat)} {g : Option (Int32 × St)} {ff : (Int32 × St) → Option α} (hd : dI k.2.1 pc (.invokevirtual idx) 3 pc') (hw : Cond.methodLink k.1.cls idx k2.1 ∈ TG) (hk : VirK k2 3) (hc : lay[c]? = some (.inr (.inr (ci, fs)))) (hv : VcK ci k2) (e1 : a1.category = 1) (e2 : a2.category = 1) (e3 : a3.category = 1) (hst : (st.map fun v => v.category).sum ≤ 8) (h : SemG eI X k2 d 0 (ini k2 (.ref (xB X + c) :: [a1, a2, a3])) [] S g) (kk : ∀ q, SemG emb X k (d + 1) pc' ls (.int q.1 :: st) q.2 (ff q)) : SemG emb X k (d + 1) pc ls (a3 :: a2 :: a1 :: .ref (xB X + c) :: st) S (g.bind ff) := by
  intro a ha
  obtain ⟨q, hq, ha⟩ := Option.bind_eq_some_iff.mp ha
  obtain ⟨qc, h1, h2⟩ := hv
  exact ev_callV (As := [a1, a2, a3]) hd hw hk (mkM_obj hc) h1 h2 (cat_cons e1 (cat_cons e2 (cat_cons e3 (fun v hv => by cases hv)))) hst (h q hq) (kk q a ha)
theorem g_callS3I {a1 a2 a3 : Value} {k2 : Mth} {idx : Nat} {g : Option (Int32 × St)} {ff : (Int32 × St) → Option α} (hd : dI k.2.1 pc (.invokestatic idx) 3 pc') (hw : Cond.methodLink k.1.cls idx k2.1 ∈ TG) (hk : StaK k2 3) (e1 : a1.category = 1) (e2 : a2.category = 1) (e3 : a3.category = 1) (hst : (st.map fun v => v.category).sum ≤ 8) (h : SemG eI X k2 d 0 (ini k2 [a1, a2, a3]) [] S g) (kk : ∀ q, SemG emb X k (d + 1) pc' ls (.int q.1 :: st) q.2 (ff q)) : SemG emb X k (d + 1) pc ls (a3 :: a2 :: a1 :: st) S (g.bind ff) := by
  intro a ha
  obtain ⟨q, hq, ha⟩ := Option.bind_eq_some_iff.mp ha
  exact ev_callS (As := [a1, a2, a3]) hd hw hk (cat_cons e1 (cat_cons e2 (cat_cons e3 (fun v hv => by cases hv)))) hst (h q hq) (kk q a ha)
theorem g_callN3I {a1 a2 a3 : Value} {k2 : Mth} {idx : Nat} {g : Option (Int32 × St)} {ff : (Int32 × St) → Option α} (hd : dI k.2.1 pc (.invokestatic idx) 3 pc') {host : String} (hw : (k.1.cls, idx, k2.1, host) ∈ nests) (hk : StaK k2 3) (e1 : a1.category = 1) (e2 : a2.category = 1) (e3 : a3.category = 1) (hst : (st.map fun v => v.category).sum ≤ 8) (h : SemG eI X k2 d 0 (ini k2 [a1, a2, a3]) [] S g) (kk : ∀ q, SemG emb X k (d + 1) pc' ls (.int q.1 :: st) q.2 (ff q)) : SemG emb X k (d + 1) pc ls (a3 :: a2 :: a1 :: st) S (g.bind ff) := by
  intro a ha
  obtain ⟨q, hq, ha⟩ := Option.bind_eq_some_iff.mp ha
  exact ev_callSN (As := [a1, a2, a3]) hd hw hk (cat_cons e1 (cat_cons e2 (cat_cons e3 (fun v hv => by cases hv)))) hst (h q hq) (kk q a ha)
theorem g_callV3V {a1 a2 a3 : Value} {k2 : Mth} {idx c ci : Nat} {fs : List (Option Nat)} {g : Option (St)} {ff : St → Option α} (hd : dI k.2.1 pc (.invokevirtual idx) 3 pc') (hw : Cond.methodLink k.1.cls idx k2.1 ∈ TG) (hk : VirK k2 3) (hc : lay[c]? = some (.inr (.inr (ci, fs)))) (hv : VcK ci k2) (e1 : a1.category = 1) (e2 : a2.category = 1) (e3 : a3.category = 1) (hst : (st.map fun v => v.category).sum ≤ 8) (h : SemG eV X k2 d 0 (ini k2 (.ref (xB X + c) :: [a1, a2, a3])) [] S g) (kk : ∀ q, SemG emb X k (d + 1) pc' ls (st) q (ff q)) : SemG emb X k (d + 1) pc ls (a3 :: a2 :: a1 :: .ref (xB X + c) :: st) S (g.bind ff) := by
  intro a ha
  obtain ⟨q, hq, ha⟩ := Option.bind_eq_some_iff.mp ha
  obtain ⟨qc, h1, h2⟩ := hv
  exact ev_callV (As := [a1, a2, a3]) hd hw hk (mkM_obj hc) h1 h2 (cat_cons e1 (cat_cons e2 (cat_cons e3 (fun v hv => by cases hv)))) hst (h q hq) (kk q a ha)
theorem g_callS3V {a1 a2 a3 : Value} {k2 : Mth} {idx : Nat} {g : Option (St)} {ff : St → Option α} (hd : dI k.2.1 pc (.invokestatic idx) 3 pc') (hw : Cond.methodLink k.1.cls idx k2.1 ∈ TG) (hk : StaK k2 3) (e1 : a1.category = 1) (e2 : a2.category = 1) (e3 : a3.category = 1) (hst : (st.map fun v => v.category).sum ≤ 8) (h : SemG eV X k2 d 0 (ini k2 [a1, a2, a3]) [] S g) (kk : ∀ q, SemG emb X k (d + 1) pc' ls (st) q (ff q)) : SemG emb X k (d + 1) pc ls (a3 :: a2 :: a1 :: st) S (g.bind ff) := by
  intro a ha
  obtain ⟨q, hq, ha⟩ := Option.bind_eq_some_iff.mp ha
  exact ev_callS (As := [a1, a2, a3]) hd hw hk (cat_cons e1 (cat_cons e2 (cat_cons e3 (fun v hv => by cases hv)))) hst (h q hq) (kk q a ha)
theorem g_callN3V {a1 a2 a3 : Value} {k2 : Mth} {idx : Nat} {g : Option (St)} {ff : St → Option α} (hd : dI k.2.1 pc (.invokestatic idx) 3 pc') {host : String} (hw : (k.1.cls, idx, k2.1, host) ∈ nests) (hk : StaK k2 3) (e1 : a1.category = 1) (e2 : a2.category = 1) (e3 : a3.category = 1) (hst : (st.map fun v => v.category).sum ≤ 8) (h : SemG eV X k2 d 0 (ini k2 [a1, a2, a3]) [] S g) (kk : ∀ q, SemG emb X k (d + 1) pc' ls (st) q (ff q)) : SemG emb X k (d + 1) pc ls (a3 :: a2 :: a1 :: st) S (g.bind ff) := by
  intro a ha
  obtain ⟨q, hq, ha⟩ := Option.bind_eq_some_iff.mp ha
  exact ev_callSN (As := [a1, a2, a3]) hd hw hk (cat_cons e1 (cat_cons e2 (cat_cons e3 (fun v hv => by cases hv)))) hst (h q hq) (kk q a ha)
theorem g_callV4I {a1 a2 a3 a4 : Value} {k2 : Mth} {idx c ci : Nat} {fs : List (Option Nat)} {g : Option (Int32 × St)} {ff : (Int32 × St) → Option α} (hd : dI k.2.1 pc (.invokevirtual idx) 3 pc') (hw : Cond.methodLink k.1.cls idx k2.1 ∈ TG) (hk : VirK k2 4) (hc : lay[c]? = some (.inr (.inr (ci, fs)))) (hv : VcK ci k2) (e1 : a1.category = 1) (e2 : a2.category = 1) (e3 : a3.category = 1) (e4 : a4.category = 1) (hst : (st.map fun v => v.category).sum ≤ 8) (h : SemG eI X k2 d 0 (ini k2 (.ref (xB X + c) :: [a1, a2, a3, a4])) [] S g) (kk : ∀ q, SemG emb X k (d + 1) pc' ls (.int q.1 :: st) q.2 (ff q)) : SemG emb X k (d + 1) pc ls (a4 :: a3 :: a2 :: a1 :: .ref (xB X + c) :: st) S (g.bind ff) := by
  intro a ha
  obtain ⟨q, hq, ha⟩ := Option.bind_eq_some_iff.mp ha
  obtain ⟨qc, h1, h2⟩ := hv
  exact ev_callV (As := [a1, a2, a3, a4]) hd hw hk (mkM_obj hc) h1 h2 (cat_cons e1 (cat_cons e2 (cat_cons e3 (cat_cons e4 (fun v hv => by cases hv))))) hst (h q hq) (kk q a ha)
theorem g_callS4I {a1 a2 a3 a4 : Value} {k2 : Mth} {idx : Nat} {g : Option (Int32 × St)} {ff : (Int32 × St) → Option α} (hd : dI k.2.1 pc (.invokestatic idx) 3 pc') (hw : Cond.methodLink k.1.cls idx k2.1 ∈ TG) (hk : StaK k2 4) (e1 : a1.category = 1) (e2 : a2.category = 1) (e3 : a3.category = 1) (e4 : a4.category = 1) (hst : (st.map fun v => v.category).sum ≤ 8) (h : SemG eI X k2 d 0 (ini k2 [a1, a2, a3, a4]) [] S g) (kk : ∀ q, SemG emb X k (d + 1) pc' ls (.int q.1 :: st) q.2 (ff q)) : SemG emb X k (d + 1) pc ls (a4 :: a3 :: a2 :: a1 :: st) S (g.bind ff) := by
  intro a ha
  obtain ⟨q, hq, ha⟩ := Option.bind_eq_some_iff.mp ha
  exact ev_callS (As := [a1, a2, a3, a4]) hd hw hk (cat_cons e1 (cat_cons e2 (cat_cons e3 (cat_cons e4 (fun v hv => by cases hv))))) hst (h q hq) (kk q a ha)
theorem g_callN4I {a1 a2 a3 a4 : Value} {k2 : Mth} {idx : Nat} {g : Option (Int32 × St)} {ff : (Int32 × St) → Option α} (hd : dI k.2.1 pc (.invokestatic idx) 3 pc') {host : String} (hw : (k.1.cls, idx, k2.1, host) ∈ nests) (hk : StaK k2 4) (e1 : a1.category = 1) (e2 : a2.category = 1) (e3 : a3.category = 1) (e4 : a4.category = 1) (hst : (st.map fun v => v.category).sum ≤ 8) (h : SemG eI X k2 d 0 (ini k2 [a1, a2, a3, a4]) [] S g) (kk : ∀ q, SemG emb X k (d + 1) pc' ls (.int q.1 :: st) q.2 (ff q)) : SemG emb X k (d + 1) pc ls (a4 :: a3 :: a2 :: a1 :: st) S (g.bind ff) := by
  intro a ha
  obtain ⟨q, hq, ha⟩ := Option.bind_eq_some_iff.mp ha
  exact ev_callSN (As := [a1, a2, a3, a4]) hd hw hk (cat_cons e1 (cat_cons e2 (cat_cons e3 (cat_cons e4 (fun v hv => by cases hv))))) hst (h q hq) (kk q a ha)
theorem g_callV4V {a1 a2 a3 a4 : Value} {k2 : Mth} {idx c ci : Nat} {fs : List (Option Nat)} {g : Option (St)} {ff : St → Option α} (hd : dI k.2.1 pc (.invokevirtual idx) 3 pc') (hw : Cond.methodLink k.1.cls idx k2.1 ∈ TG) (hk : VirK k2 4) (hc : lay[c]? = some (.inr (.inr (ci, fs)))) (hv : VcK ci k2) (e1 : a1.category = 1) (e2 : a2.category = 1) (e3 : a3.category = 1) (e4 : a4.category = 1) (hst : (st.map fun v => v.category).sum ≤ 8) (h : SemG eV X k2 d 0 (ini k2 (.ref (xB X + c) :: [a1, a2, a3, a4])) [] S g) (kk : ∀ q, SemG emb X k (d + 1) pc' ls (st) q (ff q)) : SemG emb X k (d + 1) pc ls (a4 :: a3 :: a2 :: a1 :: .ref (xB X + c) :: st) S (g.bind ff) := by
  intro a ha
  obtain ⟨q, hq, ha⟩ := Option.bind_eq_some_iff.mp ha
  obtain ⟨qc, h1, h2⟩ := hv
  exact ev_callV (As := [a1, a2, a3, a4]) hd hw hk (mkM_obj hc) h1 h2 (cat_cons e1 (cat_cons e2 (cat_cons e3 (cat_cons e4 (fun v hv => by cases hv))))) hst (h q hq) (kk q a ha)
theorem g_callS4V {a1 a2 a3 a4 : Value} {k2 : Mth} {idx : Nat} {g : Option (St)} {ff : St → Option α} (hd : dI k.2.1 pc (.invokestatic idx) 3 pc') (hw : Cond.methodLink k.1.cls idx k2.1 ∈ TG) (hk : StaK k2 4) (e1 : a1.category = 1) (e2 : a2.category = 1) (e3 : a3.category = 1) (e4 : a4.category = 1) (hst : (st.map fun v => v.category).sum ≤ 8) (h : SemG eV X k2 d 0 (ini k2 [a1, a2, a3, a4]) [] S g) (kk : ∀ q, SemG emb X k (d + 1) pc' ls (st) q (ff q)) : SemG emb X k (d + 1) pc ls (a4 :: a3 :: a2 :: a1 :: st) S (g.bind ff) := by
  intro a ha
  obtain ⟨q, hq, ha⟩ := Option.bind_eq_some_iff.mp ha
  exact ev_callS (As := [a1, a2, a3, a4]) hd hw hk (cat_cons e1 (cat_cons e2 (cat_cons e3 (cat_cons e4 (fun v hv => by cases hv))))) hst (h q hq) (kk q a ha)
theorem g_callN4V {a1 a2 a3 a4 : Value} {k2 : Mth} {idx : Nat} {g : Option (St)} {ff : St → Option α} (hd : dI k.2.1 pc (.invokestatic idx) 3 pc') {host : String} (hw : (k.1.cls, idx, k2.1, host) ∈ nests) (hk : StaK k2 4) (e1 : a1.category = 1) (e2 : a2.category = 1) (e3 : a3.category = 1) (e4 : a4.category = 1) (hst : (st.map fun v => v.category).sum ≤ 8) (h : SemG eV X k2 d 0 (ini k2 [a1, a2, a3, a4]) [] S g) (kk : ∀ q, SemG emb X k (d + 1) pc' ls (st) q (ff q)) : SemG emb X k (d + 1) pc ls (a4 :: a3 :: a2 :: a1 :: st) S (g.bind ff) := by
  intro a ha
  obtain ⟨q, hq, ha⟩ := Option.bind_eq_some_iff.mp ha
  exact ev_callSN (As := [a1, a2, a3, a4]) hd hw hk (cat_cons e1 (cat_cons e2 (cat_cons e3 (cat_cons e4 (fun v hv => by cases hv))))) hst (h q hq) (kk q a ha)
theorem g_callV5I {a1 a2 a3 a4 a5 : Value} {k2 : Mth} {idx c ci : Nat} {fs : List (Option Nat)} {g : Option (Int32 × St)} {ff : (Int32 × St) → Option α} (hd : dI k.2.1 pc (.invokevirtual idx) 3 pc') (hw : Cond.methodLink k.1.cls idx k2.1 ∈ TG) (hk : VirK k2 5) (hc : lay[c]? = some (.inr (.inr (ci, fs)))) (hv : VcK ci k2) (e1 : a1.category = 1) (e2 : a2.category = 1) (e3 : a3.category = 1) (e4 : a4.category = 1) (e5 : a5.category = 1) (hst : (st.map fun v => v.category).sum ≤ 8) (h : SemG eI X k2 d 0 (ini k2 (.ref (xB X + c) :: [a1, a2, a3, a4, a5])) [] S g) (kk : ∀ q, SemG emb X k (d + 1) pc' ls (.int q.1 :: st) q.2 (ff q)) : SemG emb X k (d + 1) pc ls (a5 :: a4 :: a3 :: a2 :: a1 :: .ref (xB X + c) :: st) S (g.bind ff) := by
  intro a ha
  obtain ⟨q, hq, ha⟩ := Option.bind_eq_some_iff.mp ha
  obtain ⟨qc, h1, h2⟩ := hv
  exact ev_callV (As := [a1, a2, a3, a4, a5]) hd hw hk (mkM_obj hc) h1 h2 (cat_cons e1 (cat_cons e2 (cat_cons e3 (cat_cons e4 (cat_cons e5 (fun v hv => by cases hv)))))) hst (h q hq) (kk q a ha)
theorem g_callS5I {a1 a2 a3 a4 a5 : Value} {k2 : Mth} {idx : Nat} {g : Option (Int32 × St)} {ff : (Int32 × St) → Option α} (hd : dI k.2.1 pc (.invokestatic idx) 3 pc') (hw : Cond.methodLink k.1.cls idx k2.1 ∈ TG) (hk : StaK k2 5) (e1 : a1.category = 1) (e2 : a2.category = 1) (e3 : a3.category = 1) (e4 : a4.category = 1) (e5 : a5.category = 1) (hst : (st.map fun v => v.category).sum ≤ 8) (h : SemG eI X k2 d 0 (ini k2 [a1, a2, a3, a4, a5]) [] S g) (kk : ∀ q, SemG emb X k (d + 1) pc' ls (.int q.1 :: st) q.2 (ff q)) : SemG emb X k (d + 1) pc ls (a5 :: a4 :: a3 :: a2 :: a1 :: st) S (g.bind ff) := by
  intro a ha
  obtain ⟨q, hq, ha⟩ := Option.bind_eq_some_iff.mp ha
  exact ev_callS (As := [a1, a2, a3, a4, a5]) hd hw hk (cat_cons e1 (cat_cons e2 (cat_cons e3 (cat_cons e4 (cat_cons e5 (fun v hv => by cases hv)))))) hst (h q hq) (kk q a ha)
theorem g_callN5I {a1 a2 a3 a4 a5 : Value} {k2 : Mth} {idx : Nat} {g : Option (Int32 × St)} {ff : (Int32 × St) → Option α} (hd : dI k.2.1 pc (.invokestatic idx) 3 pc') {host : String} (hw : (k.1.cls, idx, k2.1, host) ∈ nests) (hk : StaK k2 5) (e1 : a1.category = 1) (e2 : a2.category = 1) (e3 : a3.category = 1) (e4 : a4.category = 1) (e5 : a5.category = 1) (hst : (st.map fun v => v.category).sum ≤ 8) (h : SemG eI X k2 d 0 (ini k2 [a1, a2, a3, a4, a5]) [] S g) (kk : ∀ q, SemG emb X k (d + 1) pc' ls (.int q.1 :: st) q.2 (ff q)) : SemG emb X k (d + 1) pc ls (a5 :: a4 :: a3 :: a2 :: a1 :: st) S (g.bind ff) := by
  intro a ha
  obtain ⟨q, hq, ha⟩ := Option.bind_eq_some_iff.mp ha
  exact ev_callSN (As := [a1, a2, a3, a4, a5]) hd hw hk (cat_cons e1 (cat_cons e2 (cat_cons e3 (cat_cons e4 (cat_cons e5 (fun v hv => by cases hv)))))) hst (h q hq) (kk q a ha)
theorem g_callV5V {a1 a2 a3 a4 a5 : Value} {k2 : Mth} {idx c ci : Nat} {fs : List (Option Nat)} {g : Option (St)} {ff : St → Option α} (hd : dI k.2.1 pc (.invokevirtual idx) 3 pc') (hw : Cond.methodLink k.1.cls idx k2.1 ∈ TG) (hk : VirK k2 5) (hc : lay[c]? = some (.inr (.inr (ci, fs)))) (hv : VcK ci k2) (e1 : a1.category = 1) (e2 : a2.category = 1) (e3 : a3.category = 1) (e4 : a4.category = 1) (e5 : a5.category = 1) (hst : (st.map fun v => v.category).sum ≤ 8) (h : SemG eV X k2 d 0 (ini k2 (.ref (xB X + c) :: [a1, a2, a3, a4, a5])) [] S g) (kk : ∀ q, SemG emb X k (d + 1) pc' ls (st) q (ff q)) : SemG emb X k (d + 1) pc ls (a5 :: a4 :: a3 :: a2 :: a1 :: .ref (xB X + c) :: st) S (g.bind ff) := by
  intro a ha
  obtain ⟨q, hq, ha⟩ := Option.bind_eq_some_iff.mp ha
  obtain ⟨qc, h1, h2⟩ := hv
  exact ev_callV (As := [a1, a2, a3, a4, a5]) hd hw hk (mkM_obj hc) h1 h2 (cat_cons e1 (cat_cons e2 (cat_cons e3 (cat_cons e4 (cat_cons e5 (fun v hv => by cases hv)))))) hst (h q hq) (kk q a ha)
theorem g_callS5V {a1 a2 a3 a4 a5 : Value} {k2 : Mth} {idx : Nat} {g : Option (St)} {ff : St → Option α} (hd : dI k.2.1 pc (.invokestatic idx) 3 pc') (hw : Cond.methodLink k.1.cls idx k2.1 ∈ TG) (hk : StaK k2 5) (e1 : a1.category = 1) (e2 : a2.category = 1) (e3 : a3.category = 1) (e4 : a4.category = 1) (e5 : a5.category = 1) (hst : (st.map fun v => v.category).sum ≤ 8) (h : SemG eV X k2 d 0 (ini k2 [a1, a2, a3, a4, a5]) [] S g) (kk : ∀ q, SemG emb X k (d + 1) pc' ls (st) q (ff q)) : SemG emb X k (d + 1) pc ls (a5 :: a4 :: a3 :: a2 :: a1 :: st) S (g.bind ff) := by
  intro a ha
  obtain ⟨q, hq, ha⟩ := Option.bind_eq_some_iff.mp ha
  exact ev_callS (As := [a1, a2, a3, a4, a5]) hd hw hk (cat_cons e1 (cat_cons e2 (cat_cons e3 (cat_cons e4 (cat_cons e5 (fun v hv => by cases hv)))))) hst (h q hq) (kk q a ha)
theorem g_callN5V {a1 a2 a3 a4 a5 : Value} {k2 : Mth} {idx : Nat} {g : Option (St)} {ff : St → Option α} (hd : dI k.2.1 pc (.invokestatic idx) 3 pc') {host : String} (hw : (k.1.cls, idx, k2.1, host) ∈ nests) (hk : StaK k2 5) (e1 : a1.category = 1) (e2 : a2.category = 1) (e3 : a3.category = 1) (e4 : a4.category = 1) (e5 : a5.category = 1) (hst : (st.map fun v => v.category).sum ≤ 8) (h : SemG eV X k2 d 0 (ini k2 [a1, a2, a3, a4, a5]) [] S g) (kk : ∀ q, SemG emb X k (d + 1) pc' ls (st) q (ff q)) : SemG emb X k (d + 1) pc ls (a5 :: a4 :: a3 :: a2 :: a1 :: st) S (g.bind ff) := by
  intro a ha
  obtain ⟨q, hq, ha⟩ := Option.bind_eq_some_iff.mp ha
  exact ev_callSN (As := [a1, a2, a3, a4, a5]) hd hw hk (cat_cons e1 (cat_cons e2 (cat_cons e3 (cat_cons e4 (cat_cons e5 (fun v hv => by cases hv)))))) hst (h q hq) (kk q a ha)
end G
end
