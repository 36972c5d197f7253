section
-- ===== PART A: goes FIRST, ahead of the names: the tables' words, and 'selects' of the private methods out of them =====
/-- a private method of a class that the tables say can be made, by its rows of tables_1 -/
def lw_okq (q : MethodName × Nat) : Prop := (q.1.cls ≠ "java/lang/invoke/MethodHandle" ∧ q.1.cls ≠ "java/lang/invoke/VarHandle") ∧ Cond.instantiable q.1.cls q.2 ∈ tables_1 ∧ Cond.privateMethod q.1 ∈ tables_1 ∧ Cond.instanceMethod q.1 ∈ tables_1
theorem lw_p0 : lw_okq (⟨"SandLorry", "finding", "(I)I"⟩, 10) := ⟨⟨by decide +kernel, by decide +kernel⟩, List.mem_of_getElem? (i := 16) (by decide +kernel), List.mem_of_getElem? (i := 196) (by decide +kernel), List.mem_of_getElem? (i := 197) (by decide +kernel)⟩
theorem lw_p1 : lw_okq (⟨"SandLorry$Lorry", "drive", "(I)V"⟩, 2) := ⟨⟨by decide +kernel, by decide +kernel⟩, List.mem_of_getElem? (i := 30) (by decide +kernel), List.mem_of_getElem? (i := 308) (by decide +kernel), List.mem_of_getElem? (i := 309) (by decide +kernel)⟩
theorem lw_p2 : lw_okq (⟨"SandLorry$Lorry", "push", "(III)Z"⟩, 2) := ⟨⟨by decide +kernel, by decide +kernel⟩, List.mem_of_getElem? (i := 30) (by decide +kernel), List.mem_of_getElem? (i := 312) (by decide +kernel), List.mem_of_getElem? (i := 313) (by decide +kernel)⟩
theorem lw_p3 : lw_okq (⟨"SandLorry", "timesTillOut", "(II)I"⟩, 10) := ⟨⟨by decide +kernel, by decide +kernel⟩, List.mem_of_getElem? (i := 16) (by decide +kernel), List.mem_of_getElem? (i := 341) (by decide +kernel), List.mem_of_getElem? (i := 342) (by decide +kernel)⟩
theorem lw_p4 : lw_okq (⟨"SandLorry$Tape", "step", "()V"⟩, 6) := ⟨⟨by decide +kernel, by decide +kernel⟩, List.mem_of_getElem? (i := 112) (by decide +kernel), List.mem_of_getElem? (i := 379) (by decide +kernel), List.mem_of_getElem? (i := 380) (by decide +kernel)⟩
theorem lw_p5 : lw_okq (⟨"SandLorry$Tape", "endOfRun", "(III)I"⟩, 6) := ⟨⟨by decide +kernel, by decide +kernel⟩, List.mem_of_getElem? (i := 112) (by decide +kernel), List.mem_of_getElem? (i := 383) (by decide +kernel), List.mem_of_getElem? (i := 384) (by decide +kernel)⟩
theorem lw_p6 : lw_okq (⟨"SandLorry$Tape", "numberRead", "()I"⟩, 6) := ⟨⟨by decide +kernel, by decide +kernel⟩, List.mem_of_getElem? (i := 112) (by decide +kernel), List.mem_of_getElem? (i := 388) (by decide +kernel), List.mem_of_getElem? (i := 389) (by decide +kernel)⟩
theorem lw_p7 : lw_okq (⟨"SandLorry$Tape", "readItem", "(LSandLorry$Scene;)Z"⟩, 6) := ⟨⟨by decide +kernel, by decide +kernel⟩, List.mem_of_getElem? (i := 112) (by decide +kernel), List.mem_of_getElem? (i := 393) (by decide +kernel), List.mem_of_getElem? (i := 394) (by decide +kernel)⟩
theorem lw_p8 : lw_okq (⟨"SandLorry$Tape", "wordRead", "()I"⟩, 6) := ⟨⟨by decide +kernel, by decide +kernel⟩, List.mem_of_getElem? (i := 112) (by decide +kernel), List.mem_of_getElem? (i := 397) (by decide +kernel), List.mem_of_getElem? (i := 398) (by decide +kernel)⟩
theorem lw_p9 : lw_okq (⟨"SandLorry$Tape", "spells", "(Ljava/lang/String;)Z"⟩, 6) := ⟨⟨by decide +kernel, by decide +kernel⟩, List.mem_of_getElem? (i := 112) (by decide +kernel), List.mem_of_getElem? (i := 418) (by decide +kernel), List.mem_of_getElem? (i := 419) (by decide +kernel)⟩
theorem lw_p10 : lw_okq (⟨"SandLorry$Tape", "readEfforts", "(LSandLorry$Scene;I)Z"⟩, 6) := ⟨⟨by decide +kernel, by decide +kernel⟩, List.mem_of_getElem? (i := 112) (by decide +kernel), List.mem_of_getElem? (i := 470) (by decide +kernel), List.mem_of_getElem? (i := 471) (by decide +kernel)⟩
theorem lw_p11 : lw_okq (⟨"SandLorry$Tape", "readSand", "(LSandLorry$Scene;)Z"⟩, 6) := ⟨⟨by decide +kernel, by decide +kernel⟩, List.mem_of_getElem? (i := 112) (by decide +kernel), List.mem_of_getElem? (i := 482) (by decide +kernel), List.mem_of_getElem? (i := 483) (by decide +kernel)⟩
theorem lw_p12 : lw_okq (⟨"SandLorry$Tape", "readNumber", "(LSandLorry$Scene;I)Z"⟩, 6) := ⟨⟨by decide +kernel, by decide +kernel⟩, List.mem_of_getElem? (i := 112) (by decide +kernel), List.mem_of_getElem? (i := 487) (by decide +kernel), List.mem_of_getElem? (i := 488) (by decide +kernel)⟩
theorem lw_p13 : lw_okq (⟨"SandLorry$Search", "weigh", "(LSandLorry$Lorry;I)V"⟩, 5) := ⟨⟨by decide +kernel, by decide +kernel⟩, List.mem_of_getElem? (i := 83) (by decide +kernel), List.mem_of_getElem? (i := 527) (by decide +kernel), List.mem_of_getElem? (i := 528) (by decide +kernel)⟩
theorem lw_p14 : lw_okq (⟨"SandLorryModel", "finding", "(I)I"⟩, 16) := ⟨⟨by decide +kernel, by decide +kernel⟩, List.mem_of_getElem? (i := 641) (by decide +kernel), List.mem_of_getElem? (i := 706) (by decide +kernel), List.mem_of_getElem? (i := 707) (by decide +kernel)⟩
theorem lw_p15 : lw_okq (⟨"SandLorryModel", "grip", "(I)I"⟩, 16) := ⟨⟨by decide +kernel, by decide +kernel⟩, List.mem_of_getElem? (i := 641) (by decide +kernel), List.mem_of_getElem? (i := 715) (by decide +kernel), List.mem_of_getElem? (i := 716) (by decide +kernel)⟩
def lw_privs_1 : List (MethodName × Nat) := [(⟨"SandLorry", "finding", "(I)I"⟩, 10), (⟨"SandLorry$Lorry", "drive", "(I)V"⟩, 2), (⟨"SandLorry$Lorry", "push", "(III)Z"⟩, 2), (⟨"SandLorry", "timesTillOut", "(II)I"⟩, 10), (⟨"SandLorry$Tape", "step", "()V"⟩, 6), (⟨"SandLorry$Tape", "endOfRun", "(III)I"⟩, 6), (⟨"SandLorry$Tape", "numberRead", "()I"⟩, 6), (⟨"SandLorry$Tape", "readItem", "(LSandLorry$Scene;)Z"⟩, 6), (⟨"SandLorry$Tape", "wordRead", "()I"⟩, 6), (⟨"SandLorry$Tape", "spells", "(Ljava/lang/String;)Z"⟩, 6), (⟨"SandLorry$Tape", "readEfforts", "(LSandLorry$Scene;I)Z"⟩, 6), (⟨"SandLorry$Tape", "readSand", "(LSandLorry$Scene;)Z"⟩, 6), (⟨"SandLorry$Tape", "readNumber", "(LSandLorry$Scene;I)Z"⟩, 6), (⟨"SandLorry$Search", "weigh", "(LSandLorry$Lorry;I)V"⟩, 5), (⟨"SandLorryModel", "finding", "(I)I"⟩, 16), (⟨"SandLorryModel", "grip", "(I)I"⟩, 16)]
theorem lw_r1 : ∀ q ∈ lw_privs_1, lw_okq q := List.forall_mem_cons.mpr ⟨lw_p0, List.forall_mem_cons.mpr ⟨lw_p1, List.forall_mem_cons.mpr ⟨lw_p2, List.forall_mem_cons.mpr ⟨lw_p3, List.forall_mem_cons.mpr ⟨lw_p4, List.forall_mem_cons.mpr ⟨lw_p5, List.forall_mem_cons.mpr ⟨lw_p6, List.forall_mem_cons.mpr ⟨lw_p7, List.forall_mem_cons.mpr ⟨lw_p8, List.forall_mem_cons.mpr ⟨lw_p9, List.forall_mem_cons.mpr ⟨lw_p10, List.forall_mem_cons.mpr ⟨lw_p11, List.forall_mem_cons.mpr ⟨lw_p12, List.forall_mem_cons.mpr ⟨lw_p13, List.forall_mem_cons.mpr ⟨lw_p14, List.forall_mem_cons.mpr ⟨lw_p15, fun _ h => absurd h List.not_mem_nil⟩⟩⟩⟩⟩⟩⟩⟩⟩⟩⟩⟩⟩⟩⟩⟩
theorem lw_p16 : lw_okq (⟨"SandLorryModel", "gripOf", "(II)I"⟩, 16) := ⟨⟨by decide +kernel, by decide +kernel⟩, List.mem_of_getElem? (i := 641) (by decide +kernel), List.mem_of_getElem? (i := 719) (by decide +kernel), List.mem_of_getElem? (i := 720) (by decide +kernel)⟩
theorem lw_p17 : lw_okq (⟨"SandLorryModel", "hour", "()I"⟩, 16) := ⟨⟨by decide +kernel, by decide +kernel⟩, List.mem_of_getElem? (i := 641) (by decide +kernel), List.mem_of_getElem? (i := 723) (by decide +kernel), List.mem_of_getElem? (i := 724) (by decide +kernel)⟩
theorem lw_p18 : lw_okq (⟨"SandLorryModel", "heat", "()I"⟩, 16) := ⟨⟨by decide +kernel, by decide +kernel⟩, List.mem_of_getElem? (i := 641) (by decide +kernel), List.mem_of_getElem? (i := 741) (by decide +kernel), List.mem_of_getElem? (i := 742) (by decide +kernel)⟩
theorem lw_p19 : lw_okq (⟨"SandLorryModel", "weight", "()I"⟩, 16) := ⟨⟨by decide +kernel, by decide +kernel⟩, List.mem_of_getElem? (i := 641) (by decide +kernel), List.mem_of_getElem? (i := 745) (by decide +kernel), List.mem_of_getElem? (i := 746) (by decide +kernel)⟩
theorem lw_p20 : lw_okq (⟨"SandLorryModel", "isOut", "()Z"⟩, 16) := ⟨⟨by decide +kernel, by decide +kernel⟩, List.mem_of_getElem? (i := 641) (by decide +kernel), List.mem_of_getElem? (i := 749) (by decide +kernel), List.mem_of_getElem? (i := 750) (by decide +kernel)⟩
theorem lw_p21 : lw_okq (⟨"SandLorryModel", "draw", "()I"⟩, 16) := ⟨⟨by decide +kernel, by decide +kernel⟩, List.mem_of_getElem? (i := 641) (by decide +kernel), List.mem_of_getElem? (i := 761) (by decide +kernel), List.mem_of_getElem? (i := 762) (by decide +kernel)⟩
theorem lw_p22 : lw_okq (⟨"SandLorryModel", "allFirm", "()I"⟩, 16) := ⟨⟨by decide +kernel, by decide +kernel⟩, List.mem_of_getElem? (i := 641) (by decide +kernel), List.mem_of_getElem? (i := 766) (by decide +kernel), List.mem_of_getElem? (i := 767) (by decide +kernel)⟩
theorem lw_p23 : lw_okq (⟨"SandLorryModel", "minutesOf", "(I)I"⟩, 16) := ⟨⟨by decide +kernel, by decide +kernel⟩, List.mem_of_getElem? (i := 641) (by decide +kernel), List.mem_of_getElem? (i := 784) (by decide +kernel), List.mem_of_getElem? (i := 785) (by decide +kernel)⟩
theorem lw_p24 : lw_okq (⟨"SandLorryModel", "drinks", "(I)I"⟩, 16) := ⟨⟨by decide +kernel, by decide +kernel⟩, List.mem_of_getElem? (i := 641) (by decide +kernel), List.mem_of_getElem? (i := 791) (by decide +kernel), List.mem_of_getElem? (i := 792) (by decide +kernel)⟩
theorem lw_p25 : lw_okq (⟨"SandLorryModel", "canDo", "(I)Z"⟩, 16) := ⟨⟨by decide +kernel, by decide +kernel⟩, List.mem_of_getElem? (i := 641) (by decide +kernel), List.mem_of_getElem? (i := 799) (by decide +kernel), List.mem_of_getElem? (i := 800) (by decide +kernel)⟩
theorem lw_p26 : lw_okq (⟨"SandLorryModel", "does", "(I)V"⟩, 16) := ⟨⟨by decide +kernel, by decide +kernel⟩, List.mem_of_getElem? (i := 641) (by decide +kernel), List.mem_of_getElem? (i := 803) (by decide +kernel), List.mem_of_getElem? (i := 804) (by decide +kernel)⟩
theorem lw_p27 : lw_okq (⟨"SandLorryModel", "digs", "()V"⟩, 16) := ⟨⟨by decide +kernel, by decide +kernel⟩, List.mem_of_getElem? (i := 641) (by decide +kernel), List.mem_of_getElem? (i := 807) (by decide +kernel), List.mem_of_getElem? (i := 808) (by decide +kernel)⟩
theorem lw_p28 : lw_okq (⟨"SandLorryModel", "pushes", "(IIIII)V"⟩, 16) := ⟨⟨by decide +kernel, by decide +kernel⟩, List.mem_of_getElem? (i := 641) (by decide +kernel), List.mem_of_getElem? (i := 811) (by decide +kernel), List.mem_of_getElem? (i := 812) (by decide +kernel)⟩
theorem lw_p29 : lw_okq (⟨"SandLorryModel", "begin", "()V"⟩, 16) := ⟨⟨by decide +kernel, by decide +kernel⟩, List.mem_of_getElem? (i := 641) (by decide +kernel), List.mem_of_getElem? (i := 819) (by decide +kernel), List.mem_of_getElem? (i := 820) (by decide +kernel)⟩
theorem lw_p30 : lw_okq (⟨"SandLorryModel", "became", "(I)I"⟩, 16) := ⟨⟨by decide +kernel, by decide +kernel⟩, List.mem_of_getElem? (i := 641) (by decide +kernel), List.mem_of_getElem? (i := 826) (by decide +kernel), List.mem_of_getElem? (i := 827) (by decide +kernel)⟩
theorem lw_p31 : lw_okq (⟨"SandLorryModel", "layBack", "()V"⟩, 16) := ⟨⟨by decide +kernel, by decide +kernel⟩, List.mem_of_getElem? (i := 641) (by decide +kernel), List.mem_of_getElem? (i := 830) (by decide +kernel), List.mem_of_getElem? (i := 831) (by decide +kernel)⟩
def lw_privs_2 : List (MethodName × Nat) := [(⟨"SandLorryModel", "gripOf", "(II)I"⟩, 16), (⟨"SandLorryModel", "hour", "()I"⟩, 16), (⟨"SandLorryModel", "heat", "()I"⟩, 16), (⟨"SandLorryModel", "weight", "()I"⟩, 16), (⟨"SandLorryModel", "isOut", "()Z"⟩, 16), (⟨"SandLorryModel", "draw", "()I"⟩, 16), (⟨"SandLorryModel", "allFirm", "()I"⟩, 16), (⟨"SandLorryModel", "minutesOf", "(I)I"⟩, 16), (⟨"SandLorryModel", "drinks", "(I)I"⟩, 16), (⟨"SandLorryModel", "canDo", "(I)Z"⟩, 16), (⟨"SandLorryModel", "does", "(I)V"⟩, 16), (⟨"SandLorryModel", "digs", "()V"⟩, 16), (⟨"SandLorryModel", "pushes", "(IIIII)V"⟩, 16), (⟨"SandLorryModel", "begin", "()V"⟩, 16), (⟨"SandLorryModel", "became", "(I)I"⟩, 16), (⟨"SandLorryModel", "layBack", "()V"⟩, 16)]
theorem lw_r2 : ∀ q ∈ lw_privs_2, lw_okq q := List.forall_mem_cons.mpr ⟨lw_p16, List.forall_mem_cons.mpr ⟨lw_p17, List.forall_mem_cons.mpr ⟨lw_p18, List.forall_mem_cons.mpr ⟨lw_p19, List.forall_mem_cons.mpr ⟨lw_p20, List.forall_mem_cons.mpr ⟨lw_p21, List.forall_mem_cons.mpr ⟨lw_p22, List.forall_mem_cons.mpr ⟨lw_p23, List.forall_mem_cons.mpr ⟨lw_p24, List.forall_mem_cons.mpr ⟨lw_p25, List.forall_mem_cons.mpr ⟨lw_p26, List.forall_mem_cons.mpr ⟨lw_p27, List.forall_mem_cons.mpr ⟨lw_p28, List.forall_mem_cons.mpr ⟨lw_p29, List.forall_mem_cons.mpr ⟨lw_p30, List.forall_mem_cons.mpr ⟨lw_p31, fun _ h => absurd h List.not_mem_nil⟩⟩⟩⟩⟩⟩⟩⟩⟩⟩⟩⟩⟩⟩⟩⟩
theorem lw_p32 : lw_okq (⟨"SandLorryModel", "again", "(II)I"⟩, 16) := ⟨⟨by decide +kernel, by decide +kernel⟩, List.mem_of_getElem? (i := 641) (by decide +kernel), List.mem_of_getElem? (i := 838) (by decide +kernel), List.mem_of_getElem? (i := 839) (by decide +kernel)⟩
theorem lw_p33 : lw_okq (⟨"SandLorryModel", "outBy", "(II)I"⟩, 16) := ⟨⟨by decide +kernel, by decide +kernel⟩, List.mem_of_getElem? (i := 641) (by decide +kernel), List.mem_of_getElem? (i := 846) (by decide +kernel), List.mem_of_getElem? (i := 847) (by decide +kernel)⟩
theorem lw_p34 : lw_okq (⟨"SandLorryModel", "takesAll", "()Z"⟩, 16) := ⟨⟨by decide +kernel, by decide +kernel⟩, List.mem_of_getElem? (i := 641) (by decide +kernel), List.mem_of_getElem? (i := 866) (by decide +kernel), List.mem_of_getElem? (i := 867) (by decide +kernel)⟩
theorem lw_p35 : lw_okq (⟨"SandLorryModel", "next", "()V"⟩, 16) := ⟨⟨by decide +kernel, by decide +kernel⟩, List.mem_of_getElem? (i := 641) (by decide +kernel), List.mem_of_getElem? (i := 870) (by decide +kernel), List.mem_of_getElem? (i := 871) (by decide +kernel)⟩
theorem lw_p36 : lw_okq (⟨"SandLorryModel", "byteAt", "(I)I"⟩, 16) := ⟨⟨by decide +kernel, by decide +kernel⟩, List.mem_of_getElem? (i := 641) (by decide +kernel), List.mem_of_getElem? (i := 874) (by decide +kernel), List.mem_of_getElem? (i := 875) (by decide +kernel)⟩
theorem lw_p37 : lw_okq (⟨"SandLorryModel", "takesItem", "()Z"⟩, 16) := ⟨⟨by decide +kernel, by decide +kernel⟩, List.mem_of_getElem? (i := 641) (by decide +kernel), List.mem_of_getElem? (i := 878) (by decide +kernel), List.mem_of_getElem? (i := 879) (by decide +kernel)⟩
theorem lw_p38 : lw_okq (⟨"SandLorryModel", "isWord", "(Ljava/lang/String;)Z"⟩, 16) := ⟨⟨by decide +kernel, by decide +kernel⟩, List.mem_of_getElem? (i := 641) (by decide +kernel), List.mem_of_getElem? (i := 883) (by decide +kernel), List.mem_of_getElem? (i := 884) (by decide +kernel)⟩
theorem lw_p39 : lw_okq (⟨"SandLorryModel", "takesSand", "()Z"⟩, 16) := ⟨⟨by decide +kernel, by decide +kernel⟩, List.mem_of_getElem? (i := 641) (by decide +kernel), List.mem_of_getElem? (i := 889) (by decide +kernel), List.mem_of_getElem? (i := 890) (by decide +kernel)⟩
theorem lw_p40 : lw_okq (⟨"SandLorryModel", "isNumber", "(II)Z"⟩, 16) := ⟨⟨by decide +kernel, by decide +kernel⟩, List.mem_of_getElem? (i := 641) (by decide +kernel), List.mem_of_getElem? (i := 893) (by decide +kernel), List.mem_of_getElem? (i := 894) (by decide +kernel)⟩
theorem lw_p41 : lw_okq (⟨"SandLorryModel", "takesSet", "(I)Z"⟩, 16) := ⟨⟨by decide +kernel, by decide +kernel⟩, List.mem_of_getElem? (i := 641) (by decide +kernel), List.mem_of_getElem? (i := 902) (by decide +kernel), List.mem_of_getElem? (i := 903) (by decide +kernel)⟩
theorem lw_p42 : lw_okq (⟨"SandLorryModel", "takesKind", "(I)Z"⟩, 16) := ⟨⟨by decide +kernel, by decide +kernel⟩, List.mem_of_getElem? (i := 641) (by decide +kernel), List.mem_of_getElem? (i := 914) (by decide +kernel), List.mem_of_getElem? (i := 915) (by decide +kernel)⟩
theorem lw_p43 : lw_okq (⟨"SandLorryModel", "follows", "()I"⟩, 16) := ⟨⟨by decide +kernel, by decide +kernel⟩, List.mem_of_getElem? (i := 641) (by decide +kernel), List.mem_of_getElem? (i := 930) (by decide +kernel), List.mem_of_getElem? (i := 931) (by decide +kernel)⟩
theorem lw_p44 : lw_okq (⟨"SandLorryModel", "doesRow", "(II)Z"⟩, 16) := ⟨⟨by decide +kernel, by decide +kernel⟩, List.mem_of_getElem? (i := 641) (by decide +kernel), List.mem_of_getElem? (i := 942) (by decide +kernel), List.mem_of_getElem? (i := 943) (by decide +kernel)⟩
theorem lw_p45 : lw_okq (⟨"SandLorryModel", "lacks", "(I)I"⟩, 16) := ⟨⟨by decide +kernel, by decide +kernel⟩, List.mem_of_getElem? (i := 641) (by decide +kernel), List.mem_of_getElem? (i := 1008) (by decide +kernel), List.mem_of_getElem? (i := 1009) (by decide +kernel)⟩
theorem lw_p46 : lw_okq (⟨"SandLorryModel", "told", "(II)I"⟩, 16) := ⟨⟨by decide +kernel, by decide +kernel⟩, List.mem_of_getElem? (i := 641) (by decide +kernel), List.mem_of_getElem? (i := 1032) (by decide +kernel), List.mem_of_getElem? (i := 1033) (by decide +kernel)⟩
def lw_privs_3 : List (MethodName × Nat) := [(⟨"SandLorryModel", "again", "(II)I"⟩, 16), (⟨"SandLorryModel", "outBy", "(II)I"⟩, 16), (⟨"SandLorryModel", "takesAll", "()Z"⟩, 16), (⟨"SandLorryModel", "next", "()V"⟩, 16), (⟨"SandLorryModel", "byteAt", "(I)I"⟩, 16), (⟨"SandLorryModel", "takesItem", "()Z"⟩, 16), (⟨"SandLorryModel", "isWord", "(Ljava/lang/String;)Z"⟩, 16), (⟨"SandLorryModel", "takesSand", "()Z"⟩, 16), (⟨"SandLorryModel", "isNumber", "(II)Z"⟩, 16), (⟨"SandLorryModel", "takesSet", "(I)Z"⟩, 16), (⟨"SandLorryModel", "takesKind", "(I)Z"⟩, 16), (⟨"SandLorryModel", "follows", "()I"⟩, 16), (⟨"SandLorryModel", "doesRow", "(II)Z"⟩, 16), (⟨"SandLorryModel", "lacks", "(I)I"⟩, 16), (⟨"SandLorryModel", "told", "(II)I"⟩, 16)]
theorem lw_r3 : ∀ q ∈ lw_privs_3, lw_okq q := List.forall_mem_cons.mpr ⟨lw_p32, List.forall_mem_cons.mpr ⟨lw_p33, List.forall_mem_cons.mpr ⟨lw_p34, List.forall_mem_cons.mpr ⟨lw_p35, List.forall_mem_cons.mpr ⟨lw_p36, List.forall_mem_cons.mpr ⟨lw_p37, List.forall_mem_cons.mpr ⟨lw_p38, List.forall_mem_cons.mpr ⟨lw_p39, List.forall_mem_cons.mpr ⟨lw_p40, List.forall_mem_cons.mpr ⟨lw_p41, List.forall_mem_cons.mpr ⟨lw_p42, List.forall_mem_cons.mpr ⟨lw_p43, List.forall_mem_cons.mpr ⟨lw_p44, List.forall_mem_cons.mpr ⟨lw_p45, List.forall_mem_cons.mpr ⟨lw_p46, fun _ h => absurd h List.not_mem_nil⟩⟩⟩⟩⟩⟩⟩⟩⟩⟩⟩⟩⟩⟩⟩
def lw_privs : List (MethodName × Nat) := lw_privs_1 ++ (lw_privs_2 ++ (lw_privs_3))
def lw_tbl : List Cond := k2_sels lw_privs ++ tables_1
theorem lw_privs_ok : ∀ q ∈ lw_privs, lw_okq q := by
  show ∀ q ∈ lw_privs_1 ++ (lw_privs_2 ++ (lw_privs_3)), lw_okq q
  exact List.forall_mem_append.mpr ⟨lw_r1, List.forall_mem_append.mpr ⟨lw_r2, lw_r3⟩⟩
-- ===== end of PART A; then your names; then what follows =====
end
section
def R_L : String := "SandLorry$Lorry"
def F_L : u_T := fun k => match k with
  | 0 => ("SandLorry$Lorry", "firm", "[I", true)
  | _ => ("SandLorry$Lorry", "has", "[I", true)
def ft_L : Nat → FieldType := fun k => match k with
  | 0 => .array .int
  | _ => .array .int
theorem n_L : ∀ a, a < 2 → ∀ b, b < 2 → a ≠ b → (F_L a).2.1 ≠ (F_L b).2.1 := by decide +kernel
theorem ft_L_ok : ∀ k, k < 2 → parseFieldDescriptor (F_L k).2.2.1 = some (ft_L k) := by decide +kernel
def R_C : String := "SandLorry$Scene"
def F_C : u_T := fun k => match k with
  | 0 => ("SandLorry$Scene", "lorry", "LSandLorry$Lorry;", true)
  | 1 => ("SandLorry$Scene", "firm", "[I", true)
  | 2 => ("SandLorry$Scene", "slots", "[I", true)
  | 3 => ("SandLorry$Scene", "spots", "[I", true)
  | 4 => ("SandLorry$Scene", "plan", "[I", true)
  | 5 => ("SandLorry$Scene", "planned", "I", false)
  | _ => ("SandLorry$Scene", "z", "I", false)
def ft_C : Nat → FieldType := fun k => match k with
  | 0 => .object "SandLorry$Lorry"
  | 1 => .array .int
  | 2 => .array .int
  | 3 => .array .int
  | 4 => .array .int
  | 5 => .int
  | _ => .int
theorem n_C : ∀ a, a < 7 → ∀ b, b < 7 → a ≠ b → (F_C a).2.1 ≠ (F_C b).2.1 := by decide +kernel
theorem ft_C_ok : ∀ k, k < 7 → parseFieldDescriptor (F_C k).2.2.1 = some (ft_C k) := by decide +kernel
def R_H : String := "SandLorry$Search"
def F_H : u_T := fun k => match k with
  | 0 => ("SandLorry$Search", "behind", "[LSandLorry$Lorry;", true)
  | 1 => ("SandLorry$Search", "isFound", "Z", false)
  | 2 => ("SandLorry$Search", "gain", "I", false)
  | 3 => ("SandLorry$Search", "drunk", "I", false)
  | _ => ("SandLorry$Search", "digits", "I", false)
def ft_H : Nat → FieldType := fun k => match k with
  | 0 => .array (.object "SandLorry$Lorry")
  | 1 => .boolean
  | 2 => .int
  | 3 => .int
  | _ => .int
theorem n_H : ∀ a, a < 5 → ∀ b, b < 5 → a ≠ b → (F_H a).2.1 ≠ (F_H b).2.1 := by decide +kernel
theorem ft_H_ok : ∀ k, k < 5 → parseFieldDescriptor (F_H k).2.2.1 = some (ft_H k) := by decide +kernel
def R_T : String := "SandLorry$Sheet"
def F_T : u_T := fun k => match k with
  | 0 => ("SandLorry$Sheet", "numbers", "[I", true)
  | 1 => ("SandLorry$Sheet", "bits", "I", false)
  | _ => ("SandLorry$Sheet", "size", "I", false)
def ft_T : Nat → FieldType := fun k => match k with
  | 0 => .array .int
  | 1 => .int
  | _ => .int
theorem n_T : ∀ a, a < 3 → ∀ b, b < 3 → a ≠ b → (F_T a).2.1 ≠ (F_T b).2.1 := by decide +kernel
theorem ft_T_ok : ∀ k, k < 3 → parseFieldDescriptor (F_T k).2.2.1 = some (ft_T k) := by decide +kernel
def R_P : String := "SandLorry$Tape"
def F_P : u_T := fun k => match k with
  | 0 => ("SandLorry$Tape", "bytes", "[I", true)
  | 1 => ("SandLorry$Tape", "length", "I", false)
  | 2 => ("SandLorry$Tape", "token", "I", false)
  | 3 => ("SandLorry$Tape", "start", "I", false)
  | 4 => ("SandLorry$Tape", "end", "I", false)
  | _ => ("SandLorry$Tape", "value", "I", false)
def ft_P : Nat → FieldType := fun k => match k with
  | 0 => .array .int
  | 1 => .int
  | 2 => .int
  | 3 => .int
  | 4 => .int
  | _ => .int
theorem n_P : ∀ a, a < 6 → ∀ b, b < 6 → a ≠ b → (F_P a).2.1 ≠ (F_P b).2.1 := by decide +kernel
theorem ft_P_ok : ∀ k, k < 6 → parseFieldDescriptor (F_P k).2.2.1 = some (ft_P k) := by decide +kernel
def R_S : String := "SandLorry"
def F_S : u_T := fun k => match k with
  | 0 => ("SandLorry", "scene", "LSandLorry$Scene;", true)
  | 1 => ("SandLorry", "kept", "LSandLorry$Scene;", true)
  | 2 => ("SandLorry", "draft", "LSandLorry$Scene;", true)
  | 3 => ("SandLorry", "lorry", "LSandLorry$Lorry;", true)
  | 4 => ("SandLorry", "trial", "LSandLorry$Lorry;", true)
  | 5 => ("SandLorry", "search", "LSandLorry$Search;", true)
  | 6 => ("SandLorry", "tape", "LSandLorry$Tape;", true)
  | 7 => ("SandLorry", "sheets", "[LSandLorry$Sheet;", true)
  | 8 => ("SandLorry", "findings", "[I", true)
  | _ => ("SandLorry", "isKept", "Z", false)
def ft_S : Nat → FieldType := fun k => match k with
  | 0 => .object "SandLorry$Scene"
  | 1 => .object "SandLorry$Scene"
  | 2 => .object "SandLorry$Scene"
  | 3 => .object "SandLorry$Lorry"
  | 4 => .object "SandLorry$Lorry"
  | 5 => .object "SandLorry$Search"
  | 6 => .object "SandLorry$Tape"
  | 7 => .array (.object "SandLorry$Sheet")
  | 8 => .array .int
  | _ => .boolean
theorem n_S : ∀ a, a < 10 → ∀ b, b < 10 → a ≠ b → (F_S a).2.1 ≠ (F_S b).2.1 := by decide +kernel
theorem ft_S_ok : ∀ k, k < 10 → parseFieldDescriptor (F_S k).2.2.1 = some (ft_S k) := by decide +kernel
def R_M : String := "SandLorryModel"
def F_M : u_T := fun k => match k with
  | 0 => ("SandLorryModel", "s", "[I", true)
  | 1 => ("SandLorryModel", "kept", "[I", true)
  | 2 => ("SandLorryModel", "put", "[I", true)
  | 3 => ("SandLorryModel", "isKept", "Z", false)
  | 4 => ("SandLorryModel", "findings", "[I", true)
  | 5 => ("SandLorryModel", "tape", "[I", true)
  | 6 => ("SandLorryModel", "taped", "I", false)
  | 7 => ("SandLorryModel", "at", "I", false)
  | 8 => ("SandLorryModel", "token", "I", false)
  | 9 => ("SandLorryModel", "tokenAt", "I", false)
  | 10 => ("SandLorryModel", "value", "I", false)
  | 11 => ("SandLorryModel", "row", "[I", true)
  | 12 => ("SandLorryModel", "bits", "[I", true)
  | 13 => ("SandLorryModel", "sizes", "[I", true)
  | 14 => ("SandLorryModel", "number", "[I", true)
  | _ => ("SandLorryModel", "carried", "[I", true)
def ft_M : Nat → FieldType := fun k => match k with
  | 0 => .array .int
  | 1 => .array .int
  | 2 => .array .int
  | 3 => .boolean
  | 4 => .array .int
  | 5 => .array .int
  | 6 => .int
  | 7 => .int
  | 8 => .int
  | 9 => .int
  | 10 => .int
  | 11 => .array .int
  | 12 => .array .int
  | 13 => .array .int
  | 14 => .array .int
  | _ => .array .int
theorem n_M : ∀ a, a < 16 → ∀ b, b < 16 → a ≠ b → (F_M a).2.1 ≠ (F_M b).2.1 := by decide +kernel
theorem ft_M_ok : ∀ k, k < 16 → parseFieldDescriptor (F_M k).2.2.1 = some (ft_M k) := by decide +kernel
abbrev cls : List vw_C := [(R_L, F_L, 2), (R_C, F_C, 7), (R_H, F_H, 5), (R_T, F_T, 3), (R_P, F_P, 6), (R_S, F_S, 10), (R_M, F_M, 16)]
abbrev clsT : Nat → Nat → FieldType := fun c => match c with
  | 0 => ft_L
  | 1 => ft_C
  | 2 => ft_H
  | 3 => ft_T
  | 4 => ft_P
  | 5 => ft_S
  | _ => ft_M
abbrev Mth : Type := MethodName × ByteArray × Nat × Option FieldType
def k_S_init : Mth := (⟨"SandLorry", "<init>", "()V"⟩, prog_1_method_1_code, 1, none)
def k_JO_init : Mth := (⟨"java/lang/Object", "<init>", "()V"⟩, object_method_1_code, 1, none)
def k_C_init : Mth := (⟨"SandLorry$Scene", "<init>", "()V"⟩, prog_3_method_1_code, 1, none)
def k_L_init : Mth := (⟨"SandLorry$Lorry", "<init>", "([I)V"⟩, prog_2_method_1_code, 2, none)
def k_JA_fill : Mth := (⟨"java/util/Arrays", "fill", "([II)V"⟩, prog_14_method_103_code, 4, none)
def k_H_init : Mth := (⟨"SandLorry$Search", "<init>", "([I)V"⟩, prog_4_method_1_code, 3, none)
def k_P_init : Mth := (⟨"SandLorry$Tape", "<init>", "()V"⟩, prog_6_method_1_code, 1, none)
def k_T_init : Mth := (⟨"SandLorry$Sheet", "<init>", "()V"⟩, prog_5_method_1_code, 1, none)
def k_S_sand : Mth := (⟨"SandLorry", "sand", "(II)I"⟩, prog_1_method_2_code, 4, (some .int))
def k_S_isYard : Mth := (⟨"SandLorry", "isYard", "(I)Z"⟩, prog_1_method_45_code, 1, (some .boolean))
def k_S_finding : Mth := (⟨"SandLorry", "finding", "(I)I"⟩, prog_1_method_42_code, 2, (some .int))
def k_S_yardOf : Mth := (⟨"SandLorry", "yardOf", "(II)I"⟩, prog_1_method_3_code, 4, (some .int))
def k_L_gripOf : Mth := (⟨"SandLorry$Lorry", "gripOf", "(II)I"⟩, prog_2_method_8_code, 5, (some .int))
def k_L_hour : Mth := (⟨"SandLorry$Lorry", "hour", "()I"⟩, prog_2_method_5_code, 1, (some .int))
def k_S_set : Mth := (⟨"SandLorry", "set", "(II)I"⟩, prog_1_method_4_code, 4, (some .int))
def k_S_leastOf : Mth := (⟨"SandLorry", "leastOf", "(I)I"⟩, prog_1_method_49_code, 1, (some .int))
def k_S_mostOf : Mth := (⟨"SandLorry", "mostOf", "(I)I"⟩, prog_1_method_50_code, 1, (some .int))
def k_S_now : Mth := (⟨"SandLorry", "now", "(I)I"⟩, prog_1_method_5_code, 2, (some .int))
def k_L_heat : Mth := (⟨"SandLorry$Lorry", "heat", "()I"⟩, prog_2_method_6_code, 2, (some .int))
def k_L_weight : Mth := (⟨"SandLorry$Lorry", "weight", "()I"⟩, prog_2_method_7_code, 1, (some .int))
def k_S_weightOf : Mth := (⟨"SandLorry", "weightOf", "(II)I"⟩, prog_1_method_51_code, 2, (some .int))
def k_L_isOut : Mth := (⟨"SandLorry$Lorry", "isOut", "()Z"⟩, prog_2_method_4_code, 1, (some .boolean))
def k_S_soft : Mth := (⟨"SandLorry", "soft", "(II)I"⟩, prog_1_method_6_code, 7, (some .int))
def k_S_wind : Mth := (⟨"SandLorry", "wind", "(I)I"⟩, prog_1_method_7_code, 5, (some .int))
def k_C_draw : Mth := (⟨"SandLorry$Scene", "draw", "()I"⟩, prog_3_method_3_code, 1, (some .int))
def k_C_firmInAll : Mth := (⟨"SandLorry$Scene", "firmInAll", "()I"⟩, prog_3_method_4_code, 3, (some .int))
def k_S_effort : Mth := (⟨"SandLorry", "effort", "(II)I"⟩, prog_1_method_8_code, 3, (some .int))
def k_S_isSlot : Mth := (⟨"SandLorry", "isSlot", "(I)Z"⟩, prog_1_method_46_code, 1, (some .boolean))
def k_S_effortOf : Mth := (⟨"SandLorry", "effortOf", "(II)I"⟩, prog_1_method_9_code, 4, (some .int))
def k_L_minutesOf : Mth := (⟨"SandLorry$Lorry", "minutesOf", "(I)I"⟩, prog_2_method_9_code, 2, (some .int))
def k_S_workOf : Mth := (⟨"SandLorry", "workOf", "(I)I"⟩, prog_1_method_54_code, 1, (some .int))
def k_L_drinkOf : Mth := (⟨"SandLorry$Lorry", "drinkOf", "(I)I"⟩, prog_2_method_10_code, 2, (some .int))
def k_S_go : Mth := (⟨"SandLorry", "go", "(I)I"⟩, prog_1_method_10_code, 4, (some .int))
def k_L_carriesOut : Mth := (⟨"SandLorry$Lorry", "carriesOut", "(I)Z"⟩, prog_2_method_12_code, 3, (some .boolean))
def k_S_isOfKind : Mth := (⟨"SandLorry", "isOfKind", "(II)Z"⟩, prog_1_method_53_code, 4, (some .boolean))
def k_S_kindAbove : Mth := (⟨"SandLorry", "kindAbove", "(I)I"⟩, prog_1_method_52_code, 1, (some .int))
def k_JM_max : Mth := (⟨"java/lang/Math", "max", "(II)I"⟩, prog_9_method_65_code, 2, (some .int))
def k_JM_min : Mth := (⟨"java/lang/Math", "min", "(II)I"⟩, prog_9_method_69_code, 2, (some .int))
def k_L_drive : Mth := (⟨"SandLorry$Lorry", "drive", "(I)V"⟩, prog_2_method_13_code, 9, none)
def k_L_push : Mth := (⟨"SandLorry$Lorry", "push", "(III)Z"⟩, prog_2_method_14_code, 6, (some .boolean))
def k_S_gives : Mth := (⟨"SandLorry", "gives", "(II)I"⟩, prog_1_method_11_code, 4, (some .int))
def k_L_become : Mth := (⟨"SandLorry$Lorry", "become", "(LSandLorry$Lorry;)V"⟩, prog_2_method_2_code, 2, none)
def k_L_since : Mth := (⟨"SandLorry$Lorry", "since", "(LSandLorry$Lorry;I)I"⟩, prog_2_method_3_code, 3, (some .int))
def k_S_lasts : Mth := (⟨"SandLorry", "lasts", "(I)I"⟩, prog_1_method_12_code, 4, (some .int))
def k_S_out : Mth := (⟨"SandLorry", "out", "(I)I"⟩, prog_1_method_13_code, 4, (some .int))
def k_S_timesTillOut : Mth := (⟨"SandLorry", "timesTillOut", "(II)I"⟩, prog_1_method_43_code, 4, (some .int))
def k_S_when : Mth := (⟨"SandLorry", "when", "(I)I"⟩, prog_1_method_14_code, 8, (some .int))
def k_L_passHours : Mth := (⟨"SandLorry$Lorry", "passHours", "(I)V"⟩, prog_2_method_11_code, 2, none)
def k_S_feed : Mth := (⟨"SandLorry", "feed", "(II)I"⟩, prog_1_method_15_code, 4, (some .int))
def k_P_append : Mth := (⟨"SandLorry$Tape", "append", "(I)V"⟩, prog_6_method_2_code, 2, none)
def k_S_wipe : Mth := (⟨"SandLorry", "wipe", "()I"⟩, prog_1_method_16_code, 2, (some .int))
def k_S_text : Mth := (⟨"SandLorry", "text", "()I"⟩, prog_1_method_17_code, 2, (some .int))
def k_C_become : Mth := (⟨"SandLorry$Scene", "become", "(LSandLorry$Scene;)V"⟩, prog_3_method_2_code, 2, none)
def k_P_readInto : Mth := (⟨"SandLorry$Tape", "readInto", "(LSandLorry$Scene;)I"⟩, prog_6_method_3_code, 3, (some .int))
def k_P_step : Mth := (⟨"SandLorry$Tape", "step", "()V"⟩, prog_6_method_8_code, 2, none)
def k_P_endOfRun : Mth := (⟨"SandLorry$Tape", "endOfRun", "(III)I"⟩, prog_6_method_9_code, 5, (some .int))
def k_P_numberRead : Mth := (⟨"SandLorry$Tape", "numberRead", "()I"⟩, prog_6_method_10_code, 3, (some .int))
def k_P_readItem : Mth := (⟨"SandLorry$Tape", "readItem", "(LSandLorry$Scene;)Z"⟩, prog_6_method_4_code, 3, (some .boolean))
def k_P_wordRead : Mth := (⟨"SandLorry$Tape", "wordRead", "()I"⟩, prog_6_method_11_code, 2, (some .int))
def k_P_wordOf : Mth := (⟨"SandLorry$Tape", "wordOf", "(I)Ljava/lang/String;"⟩, prog_6_method_13_code, 1, (some (.object "java/lang/String")))
def k_P_spells : Mth := (⟨"SandLorry$Tape", "spells", "(Ljava/lang/String;)Z"⟩, prog_6_method_12_code, 3, (some .boolean))
def k_JS_length : Mth := (⟨"java/lang/String", "length", "()I"⟩, prog_10_method_54_code, 1, (some .int))
def k_JS_coder : Mth := (⟨"java/lang/String", "coder", "()B"⟩, prog_10_method_152_code, 1, (some .byte))
def k_JS_charAt : Mth := (⟨"java/lang/String", "charAt", "(I)C"⟩, prog_10_method_56_code, 2, (some .char))
def k_JS_isLatin1 : Mth := (⟨"java/lang/String", "isLatin1", "()Z"⟩, prog_10_method_154_code, 1, (some .boolean))
def k_JL_charAt : Mth := (⟨"java/lang/StringLatin1", "charAt", "([BI)C"⟩, prog_11_method_2_code, 2, (some .char))
def k_JS_checkIndex : Mth := (⟨"java/lang/String", "checkIndex", "(II)V"⟩, prog_10_method_155_code, 2, none)
def k_JP_checkIndex : Mth := (⟨"jdk/internal/util/Preconditions", "checkIndex", "(IILjava/util/function/BiFunction;)I"⟩, prog_15_method_11_code, 3, (some .int))
def k_JU_charAt : Mth := (⟨"java/lang/StringUTF16", "charAt", "([BI)C"⟩, prog_12_method_83_code, 2, (some .char))
def k_JU_checkIndex : Mth := (⟨"java/lang/StringUTF16", "checkIndex", "(I[B)V"⟩, prog_12_method_91_code, 2, none)
def k_JU_length : Mth := (⟨"java/lang/StringUTF16", "length", "([B)I"⟩, prog_12_method_6_code, 1, (some .int))
def k_JU_getChar : Mth := (⟨"java/lang/StringUTF16", "getChar", "([BI)C"⟩, prog_12_method_5_code, 2, (some .char))
def k_P_readEfforts : Mth := (⟨"SandLorry$Tape", "readEfforts", "(LSandLorry$Scene;I)Z"⟩, prog_6_method_5_code, 4, (some .boolean))
def k_C_hasRoomFor : Mth := (⟨"SandLorry$Scene", "hasRoomFor", "(I)Z"⟩, prog_3_method_5_code, 2, (some .boolean))
def k_C_addToPlan : Mth := (⟨"SandLorry$Scene", "addToPlan", "(II)V"⟩, prog_3_method_6_code, 4, none)
def k_P_readSand : Mth := (⟨"SandLorry$Tape", "readSand", "(LSandLorry$Scene;)Z"⟩, prog_6_method_6_code, 4, (some .boolean))
def k_P_readNumber : Mth := (⟨"SandLorry$Tape", "readNumber", "(LSandLorry$Scene;I)Z"⟩, prog_6_method_7_code, 3, (some .boolean))
def k_S_planOf : Mth := (⟨"SandLorry", "planOf", "(I)I"⟩, prog_1_method_18_code, 2, (some .int))
def k_S_clear : Mth := (⟨"SandLorry", "clear", "()I"⟩, prog_1_method_19_code, 2, (some .int))
def k_S_follow : Mth := (⟨"SandLorry", "follow", "()I"⟩, prog_1_method_20_code, 1, (some .int))
def k_C_planDoneBy : Mth := (⟨"SandLorry$Scene", "planDoneBy", "(LSandLorry$Lorry;)I"⟩, prog_3_method_7_code, 3, (some .int))
def k_S_plans : Mth := (⟨"SandLorry", "plans", "(I)I"⟩, prog_1_method_21_code, 3, (some .int))
def k_S_best : Mth := (⟨"SandLorry", "best", "(II)I"⟩, prog_1_method_22_code, 3, (some .int))
def k_H_begin : Mth := (⟨"SandLorry$Search", "begin", "(LSandLorry$Lorry;)V"⟩, prog_4_method_2_code, 2, none)
def k_H_tryRows : Mth := (⟨"SandLorry$Search", "tryRows", "(LSandLorry$Search;III)V"⟩, prog_4_method_3_code, 6, none)
def k_H_weigh : Mth := (⟨"SandLorry$Search", "weigh", "(LSandLorry$Lorry;I)V"⟩, prog_4_method_4_code, 5, none)
def k_S_airFor : Mth := (⟨"SandLorry", "airFor", "(I)I"⟩, prog_1_method_23_code, 3, (some .int))
def k_S_sacksFor : Mth := (⟨"SandLorry", "sacksFor", "(I)I"⟩, prog_1_method_24_code, 4, (some .int))
def k_S_waterFor : Mth := (⟨"SandLorry", "waterFor", "()I"⟩, prog_1_method_25_code, 1, (some .int))
def k_S_boardsFor : Mth := (⟨"SandLorry", "boardsFor", "(I)I"⟩, prog_1_method_26_code, 3, (some .int))
def k_S_way : Mth := (⟨"SandLorry", "way", "()I"⟩, prog_1_method_27_code, 3, (some .int))
def k_S_odds : Mth := (⟨"SandLorry", "odds", "(I)I"⟩, prog_1_method_28_code, 5, (some .int))
def k_S_seed : Mth := (⟨"SandLorry", "seed", "(I)I"⟩, prog_1_method_29_code, 3, (some .int))
def k_S_hold : Mth := (⟨"SandLorry", "hold", "(II)I"⟩, prog_1_method_30_code, 3, (some .int))
def k_S_isSpot : Mth := (⟨"SandLorry", "isSpot", "(I)Z"⟩, prog_1_method_47_code, 1, (some .boolean))
def k_S_as : Mth := (⟨"SandLorry", "as", "(II)I"⟩, prog_1_method_31_code, 4, (some .int))
def k_S_sheet : Mth := (⟨"SandLorry", "sheet", "(III)I"⟩, prog_1_method_32_code, 4, (some .int))
def k_S_isSheet : Mth := (⟨"SandLorry", "isSheet", "(I)Z"⟩, prog_1_method_48_code, 1, (some .boolean))
def k_T_renew : Mth := (⟨"SandLorry$Sheet", "renew", "(II)V"⟩, prog_5_method_3_code, 3, none)
def k_T_isMissing : Mth := (⟨"SandLorry$Sheet", "isMissing", "()Z"⟩, prog_5_method_2_code, 1, (some .boolean))
def k_S_write : Mth := (⟨"SandLorry", "write", "(III)I"⟩, prog_1_method_33_code, 5, (some .int))
def k_T_hasAll : Mth := (⟨"SandLorry$Sheet", "hasAll", "(II)Z"⟩, prog_5_method_4_code, 3, (some .boolean))
def k_T_fitted : Mth := (⟨"SandLorry$Sheet", "fitted", "(I)I"⟩, prog_5_method_5_code, 2, (some .int))
def k_S_copy : Mth := (⟨"SandLorry", "copy", "(IIIII)I"⟩, prog_1_method_34_code, 8, (some .int))
def k_S_load : Mth := (⟨"SandLorry", "load", "(II)I"⟩, prog_1_method_35_code, 6, (some .int))
def k_S_judge : Mth := (⟨"SandLorry", "judge", "(I)I"⟩, prog_1_method_36_code, 5, (some .int))
def k_S_image : Mth := (⟨"SandLorry", "image", "()I"⟩, prog_1_method_37_code, 1, (some .int))
def k_S_undo : Mth := (⟨"SandLorry", "undo", "()I"⟩, prog_1_method_38_code, 1, (some .int))
def k_S_tear : Mth := (⟨"SandLorry", "tear", "()I"⟩, prog_1_method_39_code, 2, (some .int))
def k_S_count : Mth := (⟨"SandLorry", "count", "(I)I"⟩, prog_1_method_40_code, 2, (some .int))
def k_S_filledOf : Mth := (⟨"SandLorry", "filledOf", "([I)I"⟩, prog_1_method_44_code, 3, (some .int))
def k_S_status : Mth := (⟨"SandLorry", "status", "(I)I"⟩, prog_1_method_41_code, 4, (some .int))
def k_M_init : Mth := (⟨"SandLorryModel", "<init>", "()V"⟩, prog_8_method_1_code, 2, none)
def k_M_sand : Mth := (⟨"SandLorryModel", "sand", "(II)I"⟩, prog_8_method_14_code, 4, (some .int))
def k_M_isYard : Mth := (⟨"SandLorryModel", "isYard", "(I)Z"⟩, prog_8_method_7_code, 1, (some .boolean))
def k_M_in : Mth := (⟨"SandLorryModel", "in", "(III)Z"⟩, prog_8_method_3_code, 3, (some .boolean))
def k_M_finding : Mth := (⟨"SandLorryModel", "finding", "(I)I"⟩, prog_8_method_2_code, 2, (some .int))
def k_M_yardOf : Mth := (⟨"SandLorryModel", "yardOf", "(II)I"⟩, prog_8_method_15_code, 3, (some .int))
def k_M_grip : Mth := (⟨"SandLorryModel", "grip", "(I)I"⟩, prog_8_method_12_code, 2, (some .int))
def k_M_gripOf : Mth := (⟨"SandLorryModel", "gripOf", "(II)I"⟩, prog_8_method_11_code, 3, (some .int))
def k_M_hour : Mth := (⟨"SandLorryModel", "hour", "()I"⟩, prog_8_method_9_code, 1, (some .int))
def k_M_set : Mth := (⟨"SandLorryModel", "set", "(II)I"⟩, prog_8_method_18_code, 4, (some .int))
def k_M_isSet : Mth := (⟨"SandLorryModel", "isSet", "(II)Z"⟩, prog_8_method_17_code, 2, (some .boolean))
def k_M_mostOf : Mth := (⟨"SandLorryModel", "mostOf", "(I)I"⟩, prog_8_method_16_code, 1, (some .int))
def k_M_now : Mth := (⟨"SandLorryModel", "now", "(I)I"⟩, prog_8_method_19_code, 2, (some .int))
def k_M_heat : Mth := (⟨"SandLorryModel", "heat", "()I"⟩, prog_8_method_10_code, 2, (some .int))
def k_M_weight : Mth := (⟨"SandLorryModel", "weight", "()I"⟩, prog_8_method_13_code, 1, (some .int))
def k_M_isOut : Mth := (⟨"SandLorryModel", "isOut", "()Z"⟩, prog_8_method_8_code, 1, (some .boolean))
def k_M_soft : Mth := (⟨"SandLorryModel", "soft", "(II)I"⟩, prog_8_method_20_code, 7, (some .int))
def k_M_wind : Mth := (⟨"SandLorryModel", "wind", "(I)I"⟩, prog_8_method_23_code, 4, (some .int))
def k_M_draw : Mth := (⟨"SandLorryModel", "draw", "()I"⟩, prog_8_method_21_code, 1, (some .int))
def k_M_allFirm : Mth := (⟨"SandLorryModel", "allFirm", "()I"⟩, prog_8_method_22_code, 3, (some .int))
def k_M_effort : Mth := (⟨"SandLorryModel", "effort", "(II)I"⟩, prog_8_method_33_code, 3, (some .int))
def k_M_isSlot : Mth := (⟨"SandLorryModel", "isSlot", "(I)Z"⟩, prog_8_method_31_code, 1, (some .boolean))
def k_M_isKind : Mth := (⟨"SandLorryModel", "isKind", "(I)Z"⟩, prog_8_method_32_code, 1, (some .boolean))
def k_M_effortOf : Mth := (⟨"SandLorryModel", "effortOf", "(II)I"⟩, prog_8_method_34_code, 4, (some .int))
def k_M_minutesOf : Mth := (⟨"SandLorryModel", "minutesOf", "(I)I"⟩, prog_8_method_24_code, 3, (some .int))
def k_M_workOf : Mth := (⟨"SandLorryModel", "workOf", "(I)I"⟩, prog_8_method_25_code, 1, (some .int))
def k_M_drinks : Mth := (⟨"SandLorryModel", "drinks", "(I)I"⟩, prog_8_method_26_code, 2, (some .int))
def k_M_go : Mth := (⟨"SandLorryModel", "go", "(I)I"⟩, prog_8_method_35_code, 4, (some .int))
def k_M_canDo : Mth := (⟨"SandLorryModel", "canDo", "(I)Z"⟩, prog_8_method_27_code, 2, (some .boolean))
def k_M_does : Mth := (⟨"SandLorryModel", "does", "(I)V"⟩, prog_8_method_30_code, 5, none)
def k_M_digs : Mth := (⟨"SandLorryModel", "digs", "()V"⟩, prog_8_method_29_code, 2, none)
def k_M_pushes : Mth := (⟨"SandLorryModel", "pushes", "(IIIII)V"⟩, prog_8_method_28_code, 10, none)
def k_M_gives : Mth := (⟨"SandLorryModel", "gives", "(II)I"⟩, prog_8_method_37_code, 4, (some .int))
def k_M_begin : Mth := (⟨"SandLorryModel", "begin", "()V"⟩, prog_8_method_5_code, 1, none)
def k_M_lay : Mth := (⟨"SandLorryModel", "lay", "([I[I)V"⟩, prog_8_method_4_code, 3, none)
def k_M_became : Mth := (⟨"SandLorryModel", "became", "(I)I"⟩, prog_8_method_36_code, 3, (some .int))
def k_M_layBack : Mth := (⟨"SandLorryModel", "layBack", "()V"⟩, prog_8_method_6_code, 1, none)
def k_M_lasts : Mth := (⟨"SandLorryModel", "lasts", "(I)I"⟩, prog_8_method_39_code, 3, (some .int))
def k_M_again : Mth := (⟨"SandLorryModel", "again", "(II)I"⟩, prog_8_method_38_code, 4, (some .int))
def k_M_out : Mth := (⟨"SandLorryModel", "out", "(I)I"⟩, prog_8_method_40_code, 3, (some .int))
def k_M_outBy : Mth := (⟨"SandLorryModel", "outBy", "(II)I"⟩, prog_8_method_41_code, 4, (some .int))
def k_M_when : Mth := (⟨"SandLorryModel", "when", "(I)I"⟩, prog_8_method_42_code, 8, (some .int))
def k_M_feed : Mth := (⟨"SandLorryModel", "feed", "(II)I"⟩, prog_8_method_43_code, 4, (some .int))
def k_M_wipe : Mth := (⟨"SandLorryModel", "wipe", "()I"⟩, prog_8_method_44_code, 2, (some .int))
def k_M_text : Mth := (⟨"SandLorryModel", "text", "()I"⟩, prog_8_method_54_code, 2, (some .int))
def k_M_takesAll : Mth := (⟨"SandLorryModel", "takesAll", "()Z"⟩, prog_8_method_53_code, 1, (some .boolean))
def k_M_next : Mth := (⟨"SandLorryModel", "next", "()V"⟩, prog_8_method_46_code, 2, none)
def k_M_byteAt : Mth := (⟨"SandLorryModel", "byteAt", "(I)I"⟩, prog_8_method_45_code, 2, (some .int))
def k_M_takesItem : Mth := (⟨"SandLorryModel", "takesItem", "()Z"⟩, prog_8_method_52_code, 3, (some .boolean))
def k_M_isWord : Mth := (⟨"SandLorryModel", "isWord", "(Ljava/lang/String;)Z"⟩, prog_8_method_47_code, 4, (some .boolean))
def k_M_takesSand : Mth := (⟨"SandLorryModel", "takesSand", "()Z"⟩, prog_8_method_49_code, 3, (some .boolean))
def k_M_isNumber : Mth := (⟨"SandLorryModel", "isNumber", "(II)Z"⟩, prog_8_method_48_code, 3, (some .boolean))
def k_M_takesSet : Mth := (⟨"SandLorryModel", "takesSet", "(I)Z"⟩, prog_8_method_50_code, 2, (some .boolean))
def k_M_takesKind : Mth := (⟨"SandLorryModel", "takesKind", "(I)Z"⟩, prog_8_method_51_code, 4, (some .boolean))
def k_M_planOf : Mth := (⟨"SandLorryModel", "planOf", "(I)I"⟩, prog_8_method_55_code, 2, (some .int))
def k_M_clear : Mth := (⟨"SandLorryModel", "clear", "()I"⟩, prog_8_method_56_code, 2, (some .int))
def k_M_follow : Mth := (⟨"SandLorryModel", "follow", "()I"⟩, prog_8_method_58_code, 1, (some .int))
def k_M_follows : Mth := (⟨"SandLorryModel", "follows", "()I"⟩, prog_8_method_57_code, 2, (some .int))
def k_M_plans : Mth := (⟨"SandLorryModel", "plans", "(I)I"⟩, prog_8_method_59_code, 4, (some .int))
def k_M_best : Mth := (⟨"SandLorryModel", "best", "(II)I"⟩, prog_8_method_62_code, 11, (some .int))
def k_M_doesRow : Mth := (⟨"SandLorryModel", "doesRow", "(II)Z"⟩, prog_8_method_60_code, 6, (some .boolean))
def k_M_digits : Mth := (⟨"SandLorryModel", "digits", "(II)I"⟩, prog_8_method_61_code, 2, (some .int))
def k_M_airFor : Mth := (⟨"SandLorryModel", "airFor", "(I)I"⟩, prog_8_method_63_code, 3, (some .int))
def k_M_sacksFor : Mth := (⟨"SandLorryModel", "sacksFor", "(I)I"⟩, prog_8_method_64_code, 3, (some .int))
def k_M_waterFor : Mth := (⟨"SandLorryModel", "waterFor", "()I"⟩, prog_8_method_65_code, 4, (some .int))
def k_M_boardsFor : Mth := (⟨"SandLorryModel", "boardsFor", "(I)I"⟩, prog_8_method_66_code, 5, (some .int))
def k_M_way : Mth := (⟨"SandLorryModel", "way", "()I"⟩, prog_8_method_67_code, 3, (some .int))
def k_M_odds : Mth := (⟨"SandLorryModel", "odds", "(I)I"⟩, prog_8_method_68_code, 4, (some .int))
def k_M_seed : Mth := (⟨"SandLorryModel", "seed", "(I)I"⟩, prog_8_method_69_code, 3, (some .int))
def k_M_hold : Mth := (⟨"SandLorryModel", "hold", "(II)I"⟩, prog_8_method_70_code, 3, (some .int))
def k_M_as : Mth := (⟨"SandLorryModel", "as", "(II)I"⟩, prog_8_method_72_code, 4, (some .int))
def k_M_isUnder : Mth := (⟨"SandLorryModel", "isUnder", "(II)Z"⟩, prog_8_method_71_code, 2, (some .boolean))
def k_M_sheet : Mth := (⟨"SandLorryModel", "sheet", "(III)I"⟩, prog_8_method_74_code, 5, (some .int))
def k_M_isSheet : Mth := (⟨"SandLorryModel", "isSheet", "(I)Z"⟩, prog_8_method_73_code, 1, (some .boolean))
def k_M_write : Mth := (⟨"SandLorryModel", "write", "(III)I"⟩, prog_8_method_75_code, 5, (some .int))
def k_M_copy : Mth := (⟨"SandLorryModel", "copy", "(IIIII)I"⟩, prog_8_method_76_code, 7, (some .int))
def k_M_load : Mth := (⟨"SandLorryModel", "load", "(II)I"⟩, prog_8_method_78_code, 5, (some .int))
def k_M_lacks : Mth := (⟨"SandLorryModel", "lacks", "(I)I"⟩, prog_8_method_77_code, 2, (some .int))
def k_M_judge : Mth := (⟨"SandLorryModel", "judge", "(I)I"⟩, prog_8_method_79_code, 5, (some .int))
def k_M_image : Mth := (⟨"SandLorryModel", "image", "()I"⟩, prog_8_method_80_code, 1, (some .int))
def k_M_undo : Mth := (⟨"SandLorryModel", "undo", "()I"⟩, prog_8_method_81_code, 1, (some .int))
def k_M_tear : Mth := (⟨"SandLorryModel", "tear", "()I"⟩, prog_8_method_82_code, 2, (some .int))
def k_M_count : Mth := (⟨"SandLorryModel", "count", "(I)I"⟩, prog_8_method_84_code, 2, (some .int))
def k_M_told : Mth := (⟨"SandLorryModel", "told", "(II)I"⟩, prog_8_method_83_code, 5, (some .int))
def k_M_status : Mth := (⟨"SandLorryModel", "status", "(I)I"⟩, prog_8_method_85_code, 4, (some .int))
end
section
/-! ===== the judgement Sem: a method's run from a place on, over a pure memory: a list of cells, the cell at place c lies at the address base + c ===== -/
abbrev xC : Type := Nat × va_G × ClassId × (Nat → ClassId) × (State → Prop)
abbrev xB (X : xC) : Nat := X.1
abbrev xD (X : xC) : va_G := X.2.1
abbrev xI (X : xC) : ClassId := X.2.2.1
abbrev xR (X : xC) : Nat → ClassId := X.2.2.2.1
abbrev xE (X : xC) : State → Prop := X.2.2.2.2
def xTys (X : xC) : List (ClassId × FieldType) := [(xI X, .int), (xR X 0, .object "SandLorry$Lorry"), (xR X 1, .object "SandLorry$Sheet")]
def TG : List Cond := lw_tbl.filter goodWord
theorem TG_at (i : Nat) {w : Cond} (h : tables_1[i]? = some w) (hg : goodWord w = true) : w ∈ TG := List.mem_filter.mpr ⟨List.mem_append_right _ (List.mem_of_getElem? h), hg⟩
theorem TG_sel (i : Nat) {w : Cond} (h : (k2_sels lw_privs)[i]? = some w) (hg : goodWord w = true) : w ∈ TG := List.mem_filter.mpr ⟨List.mem_append_left _ (List.mem_of_getElem? h), hg⟩
theorem TG_good : GoodIn TG TG := fun w h => ⟨h, good_of_word (List.mem_filter.mp h).2⟩
abbrev wsM (k : Mth) : List Cond := .code k.1 k.2.1 k.2.2.1 k.2.2.2 :: TG
def nests : List (String × Nat × MethodName × String) := [("SandLorry", 48, ⟨"SandLorry$Tape", "<init>", "()V"⟩, "SandLorry"), ("SandLorry", 55, ⟨"SandLorry$Sheet", "<init>", "()V"⟩, "SandLorry"), ("SandLorry$Lorry", 32, ⟨"SandLorry", "weightOf", "(II)I"⟩, "SandLorry"), ("SandLorry$Lorry", 24, ⟨"SandLorry", "isYard", "(I)Z"⟩, "SandLorry"), ("SandLorry$Lorry", 36, ⟨"SandLorry", "workOf", "(I)I"⟩, "SandLorry"), ("SandLorry$Lorry", 53, ⟨"SandLorry", "isOfKind", "(II)Z"⟩, "SandLorry"), ("SandLorry$Tape", 62, ⟨"SandLorry", "isYard", "(I)Z"⟩, "SandLorry"), ("SandLorry$Tape", 68, ⟨"SandLorry", "leastOf", "(I)I"⟩, "SandLorry"), ("SandLorry$Tape", 72, ⟨"SandLorry", "mostOf", "(I)I"⟩, "SandLorry"), ("SandLorry", 164, ⟨"SandLorry$Search", "tryRows", "(LSandLorry$Search;III)V"⟩, "SandLorry")]
def toW (b : Nat) (M : List va_E) : va_W := M.mapIdx (fun c e => (b + c, e))
theorem toW_get {b : Nat} {M : List va_E} {c : Nat} {e : va_E} (h : M[c]? = some e) : (toW b M)[c]? = some (b + c, e) := by
  simp [toW, List.getElem?_mapIdx, h]
theorem toW_inv {b : Nat} {M : List va_E} {c : Nat} {q : Nat × va_E} (h : (toW b M)[c]? = some q) : ∃ e, M[c]? = some e ∧ q = (b + c, e) := by
  simp only [toW, List.getElem?_mapIdx, Option.map_eq_some_iff] at h
  obtain ⟨e, h1, h2⟩ := h
  exact ⟨e, h1, h2.symm⟩
theorem toW_set {b : Nat} {M : List va_E} {c : Nat} {e : va_E} : (toW b M).set c (b + c, e) = toW b (M.set c e) := by
  apply List.ext_getElem?
  intro i
  by_cases hi : i = c
  · subst hi
    by_cases hl : i < M.length
    · rw [List.getElem?_set_self (by simpa [toW] using hl), toW_get (List.getElem?_set_self hl)]
    · rw [List.getElem?_eq_none (by simpa [toW] using hl), List.getElem?_eq_none (by simpa [toW] using hl)]
  · rw [List.getElem?_set_ne (Ne.symm hi)]
    simp only [toW, List.getElem?_mapIdx]
    rw [List.getElem?_set_ne (Ne.symm hi)]
theorem toW_push {b : Nat} {M : List va_E} {e : va_E} : toW b M ++ [(b + M.length, e)] = toW b (M ++ [e]) := by
  simp [toW, List.mapIdx_append]
theorem toW_D {b : Nat} {M : List va_E} : va_D (fun q => b ≤ q) (toW b M) := by
  refine ⟨fun i j p q hi hj he => ?_, fun i q hi => ?_⟩
  · obtain ⟨e1, -, rfl⟩ := toW_inv hi
    obtain ⟨e2, -, rfl⟩ := toW_inv hj
    exact Nat.add_left_cancel he
  · obtain ⟨e1, -, rfl⟩ := toW_inv hi
    exact Nat.le_add_right _ _
def Wd (X : xC) (M : List va_E) (H : Heap) : Prop := va_P (xD X) cls (toW (xB X) M) H ∧ H.size = xB X + M.length
def EnvOK (X : xC) (U : State) : Prop := va_K (xD X) cls (xTys X) U ∧ (∀ q ∈ nests, va_Nw (.methodLinkNest q.1 q.2.1 q.2.2.1 q.2.2.2) U) ∧ va_AO "SandLorry$Lorry" U ∧ va_AO "SandLorry$Sheet" U ∧ xE X U
def XOK (X : xC) : Prop := ∀ u U : State, u.WarmedH U.vm → (∀ q, q < xB X → U.heap[q]? = u.heap[q]?) → xE X u → xE X U
theorem EnvOK.move {X : xC} (hX : XOK X) {s U : State} (hW : s.WarmedH U.vm) (hq : ∀ q, q < xB X → U.heap[q]? = s.heap[q]?) (h : EnvOK X s) : EnvOK X U :=
  ⟨va_K.moved hW.alike h.1, fun q hq => va_Nw.warmM hW (h.2.1 q hq), va_AO.moved hW.alike h.2.2.1, va_AO.moved hW.alike h.2.2.2.1, hX _ _ hW hq h.2.2.2.2⟩
def CtxOK (X : xC) (k : Mth) (d : Nat) (p : Program) (R : Room) (s : State) (m : MethodId) (args : Array Value) (meth : Method) (c : Code) : Prop :=
  p.tables.exec = Jvm.exec ∧ c.code = k.2.1 ∧ meth.sig.returnType = k.2.2.2 ∧ c.maxLocals = k.2.2.1 ∧ s.vm.findClass k.1.cls = some m.cls ∧ (∀ w ∈ TG, w.before args s = true) ∧ meth.locks = false ∧ meth.name = k.1.name ∧ xB X ≤ s.heap.size ∧ (d ≤ R.frames ∧ d * 64 ≤ R.locals) ∧ EnvOK X s ∧ XOK X
def LV (n : Nat) (ls : List (Option Value)) (la : Array Slot) : Prop := lv_has la n [] ∧ ∀ (i : Nat) (v : Value), ls[i]? = some (some v) → la[i]? = some (.val v) ∧ v.category = 1
def Qs (X : xC) (r : Option Value) (M : List va_E) : Array Value → State → Outcome → State → Prop := fun _ st o t => o = .returned r ∧ Wd X M t.heap ∧ va_F (fun q => xB X ≤ q) st t
def Sem (X : xC) (k : Mth) (d pc : Nat) (ls : List (Option Value)) (st : List Value) (M : List va_E) (r : Option Value) (M' : List va_E) (kc ks : Nat) : Prop :=
  ∀ (p : Program) (l : Launch) (e : Env) (R : Room) (s : State) (m : MethodId) (args : Array Value) (below : List Frame) (meth : Method) (c : Code), CtxOK X k d p R s m args meth c →
  ∀ (H : Heap) (locs : List Loc) (cells slots : Nat), Wd X M H → va_S (fun q => xB X ≤ q) s.heap H locs → cells + kc ≤ R.cells → slots + ks ≤ R.slots →
  ∀ la : Array Slot, LV k.2.2.1 ls la →
    W p l e R s m args below meth c H locs cells slots (MQ below (Qs X r M') args s (cells + kc) (slots + ks) (fun q => xB X ≤ q)) (F0 m pc la st)
abbrev dI (b : ByteArray) (pc : Nat) (i : Instr) (n pc' : Nat) : Prop := decode b pc = .ok (i, n) ∧ pc + n = pc'
abbrev dJ (b : ByteArray) (pc : Nat) (i : Instr) (off : Int) (pc' tgt : Nat) : Prop := decode b pc = .ok (i, 3) ∧ pc + 3 = pc' ∧ (pc : Int) + off = (tgt : Int)
def kl (ls : List (Option Value)) : List (Nat × Value) := ls.zipIdx.filterMap (fun q => q.1.map (fun v => (q.2, v)))
theorem kl_mem {ls : List (Option Value)} {i : Nat} {v : Value} : (i, v) ∈ kl ls ↔ ls[i]? = some (some v) := by
  constructor
  · intro h
    obtain ⟨⟨o, j⟩, h1, h2⟩ := List.mem_filterMap.mp h
    cases o with
    | none => simp at h2
    | some w =>
      simp only [Option.map_some, Option.some.injEq, Prod.mk.injEq] at h2
      obtain ⟨rfl, rfl⟩ := h2
      exact List.mem_zipIdx_iff_getElem?.mp h1
  · intro h
    exact List.mem_filterMap.mpr ⟨(some v, i), List.mem_zipIdx_iff_getElem?.mpr h, rfl⟩
theorem LV.has {n : Nat} {ls : List (Option Value)} {la : Array Slot} (h : LV n ls la) : lv_has la n (kl ls) := ⟨h.1.1, h.1.2.1, fun q hq => (h.2 q.1 q.2 (kl_mem.mp hq)).1⟩
theorem LV.set {n i : Nat} {ls : List (Option Value)} {la la' : Array Slot} {v : Value} (h : LV n ls la) (hv : v.category = 1) (h' : lv_has la' n ((i, v) :: (kl ls).filter (fun q => !(q.1 == i) && !(q.1 + 1 == i && q.2.category == 2)))) : LV n (ls.set i (some v)) la' := by
  refine ⟨⟨h'.1, h'.2.1, fun q hq => by cases hq⟩, fun j w hj => ?_⟩
  by_cases hji : j = i
  · subst hji
    have hl : j < ls.length := by
      have := (List.getElem?_eq_some_iff.mp hj).1
      simpa using this
    rw [List.getElem?_set_self hl] at hj
    cases hj
    exact ⟨h'.2.2 (j, v) List.mem_cons_self, hv⟩
  · rw [List.getElem?_set_ne (Ne.symm hji)] at hj
    have hc := (h.2 j w hj).2
    refine ⟨h'.2.2 (j, w) (List.mem_cons_of_mem _ (List.mem_filter.mpr ⟨kl_mem.mpr hj, ?_⟩)), hc⟩
    simp [hji, hc]
section RULES
variable {X : xC} {k : Mth} {d pc pc' tgt : Nat} {ls : List (Option Value)} {st : List Value} {M M' : List va_E} {r : Option Value} {kc ks : Nat}
theorem ev_iconst {n : Int} {v : Int32} (hd : dI k.2.1 pc (.iconst n) 1 pc' ∧ Int32.ofInt n = v) (kk : Sem X k d pc' ls (.int v :: st) M r M' kc ks) : Sem X k d pc ls st M r M' kc ks := by
  intro p l e R s m args below meth c C H locs cells slots hW hS hc hs la hl
  obtain ⟨hx, hb, hr, hml, hown, hts, hlk, hnm, hbs, hR, hE, hX⟩ := id C
  obtain ⟨⟨hd, rfl⟩, hv⟩ := hd
  exact lv_iconst hx hb hd hv (kk p l e R s m args below meth c C H locs cells slots hW hS hc hs la hl)
theorem ev_bipush {n : Int} {v : Int32} (hd : dI k.2.1 pc (.bipush n) 2 pc' ∧ (Int8.ofInt n).toInt32 = v) (kk : Sem X k d pc' ls (.int v :: st) M r M' kc ks) : Sem X k d pc ls st M r M' kc ks := by
  intro p l e R s m args below meth c C H locs cells slots hW hS hc hs la hl
  obtain ⟨hx, hb, hr, hml, hown, hts, hlk, hnm, hbs, hR, hE, hX⟩ := id C
  obtain ⟨⟨hd, rfl⟩, hv⟩ := hd
  exact lv_bipush hx hb hd hv (kk p l e R s m args below meth c C H locs cells slots hW hS hc hs la hl)
theorem ev_sipush {n : Int} {v : Int32} (hd : dI k.2.1 pc (.sipush n) 3 pc' ∧ (Int16.ofInt n).toInt32 = v) (kk : Sem X k d pc' ls (.int v :: st) M r M' kc ks) : Sem X k d pc ls st M r M' kc ks := by
  intro p l e R s m args below meth c C H locs cells slots hW hS hc hs la hl
  obtain ⟨hx, hb, hr, hml, hown, hts, hlk, hnm, hbs, hR, hE, hX⟩ := id C
  obtain ⟨⟨hd, rfl⟩, hv⟩ := hd
  exact lv_sipush hx hb hd hv (kk p l e R s m args below meth c C H locs cells slots hW hS hc hs la hl)
theorem ev_ldc {idx : Nat} {v : Int32} (hd : dI k.2.1 pc (.ldc idx) 2 pc') (hw : Cond.constant k.1.cls idx v ∈ TG) (kk : Sem X k d pc' ls (.int v :: st) M r M' kc ks) : Sem X k d pc ls st M r M' kc ks := by
  intro p l e R s m args below meth c C H locs cells slots hW hS hc hs la hl
  obtain ⟨hx, hb, hr, hml, hown, hts, hlk, hnm, hbs, hR, hE, hX⟩ := id C
  obtain ⟨hd, rfl⟩ := hd
  exact lv_ldc hx hb hown (hts _ hw) hd (kk p l e R s m args below meth c C H locs cells slots hW hS hc hs la hl)
theorem ev_iload_n {j : Fin 4} {x : Int32} (hd : dI k.2.1 pc (.iload_n j) 1 pc') (h : ls[(j : Nat)]? = some (some (.int x))) (kk : Sem X k d pc' ls (.int x :: st) M r M' kc ks) : Sem X k d pc ls st M r M' kc ks := by
  intro p l e R s m args below meth c C H locs cells slots hW hS hc hs la hl
  obtain ⟨hx, hb, hr, hml, hown, hts, hlk, hnm, hbs, hR, hE, hX⟩ := id C
  obtain ⟨hd, rfl⟩ := hd
  exact lv_iload_n hx hb hd rfl (hl.2 _ _ h).1 (kk p l e R s m args below meth c C H locs cells slots hW hS hc hs la hl)
theorem ev_iload {j : Nat} {x : Int32} (hd : dI k.2.1 pc (.iload j) 2 pc') (h : ls[j]? = some (some (.int x))) (kk : Sem X k d pc' ls (.int x :: st) M r M' kc ks) : Sem X k d pc ls st M r M' kc ks := by
  intro p l e R s m args below meth c C H locs cells slots hW hS hc hs la hl
  obtain ⟨hx, hb, hr, hml, hown, hts, hlk, hnm, hbs, hR, hE, hX⟩ := id C
  obtain ⟨hd, rfl⟩ := hd
  exact lv_iload hx hb hd (hl.2 _ _ h).1 (kk p l e R s m args below meth c C H locs cells slots hW hS hc hs la hl)
theorem ev_aload_n {j : Fin 4} {x : Nat} (hd : dI k.2.1 pc (.aload_n j) 1 pc') (h : ls[(j : Nat)]? = some (some (.ref x))) (kk : Sem X k d pc' ls (.ref x :: st) M r M' kc ks) : Sem X k d pc ls st M r M' kc ks := by
  intro p l e R s m args below meth c C H locs cells slots hW hS hc hs la hl
  obtain ⟨hx, hb, hr, hml, hown, hts, hlk, hnm, hbs, hR, hE, hX⟩ := id C
  obtain ⟨hd, rfl⟩ := hd
  exact lv_aload_n hx hb hd rfl (hl.2 _ _ h).1 (kk p l e R s m args below meth c C H locs cells slots hW hS hc hs la hl)
theorem ev_aload {j : Nat} {x : Nat} (hd : dI k.2.1 pc (.aload j) 2 pc') (h : ls[j]? = some (some (.ref x))) (kk : Sem X k d pc' ls (.ref x :: st) M r M' kc ks) : Sem X k d pc ls st M r M' kc ks := by
  intro p l e R s m args below meth c C H locs cells slots hW hS hc hs la hl
  obtain ⟨hx, hb, hr, hml, hown, hts, hlk, hnm, hbs, hR, hE, hX⟩ := id C
  obtain ⟨hd, rfl⟩ := hd
  exact lv_aload hx hb hd (hl.2 _ _ h).1 (kk p l e R s m args below meth c C H locs cells slots hW hS hc hs la hl)
theorem ev_istore_n {j : Fin 4} {x : Int32} (hd : dI k.2.1 pc (.istore_n j) 1 pc') (hj : (j : Nat) < k.2.2.1) (kk : Sem X k d pc' (ls.set (j : Nat) (some (.int x))) st M r M' kc ks) : Sem X k d pc ls (.int x :: st) M r M' kc ks := by
  intro p l e R s m args below meth c C H locs cells slots hW hS hc hs la hl
  obtain ⟨hx, hb, hr, hml, hown, hts, hlk, hnm, hbs, hR, hE, hX⟩ := id C
  obtain ⟨hd, rfl⟩ := hd
  exact lv_istore_n hx hb hd rfl hl.has hj rfl (fun la' h' => kk p l e R s m args below meth c C H locs cells slots hW hS hc hs la' (hl.set rfl h'))
theorem ev_istore {j : Nat} {x : Int32} (hd : dI k.2.1 pc (.istore j) 2 pc') (hj : j < k.2.2.1) (kk : Sem X k d pc' (ls.set j (some (.int x))) st M r M' kc ks) : Sem X k d pc ls (.int x :: st) M r M' kc ks := by
  intro p l e R s m args below meth c C H locs cells slots hW hS hc hs la hl
  obtain ⟨hx, hb, hr, hml, hown, hts, hlk, hnm, hbs, hR, hE, hX⟩ := id C
  obtain ⟨hd, rfl⟩ := hd
  exact lv_istore hx hb hd hl.has hj rfl (fun la' h' => kk p l e R s m args below meth c C H locs cells slots hW hS hc hs la' (hl.set rfl h'))
theorem ev_astore_n {j : Fin 4} {x : Nat} (hd : dI k.2.1 pc (.astore_n j) 1 pc') (hj : (j : Nat) < k.2.2.1) (kk : Sem X k d pc' (ls.set (j : Nat) (some (.ref x))) st M r M' kc ks) : Sem X k d pc ls (.ref x :: st) M r M' kc ks := by
  intro p l e R s m args below meth c C H locs cells slots hW hS hc hs la hl
  obtain ⟨hx, hb, hr, hml, hown, hts, hlk, hnm, hbs, hR, hE, hX⟩ := id C
  obtain ⟨hd, rfl⟩ := hd
  exact lv_astore_n hx hb hd rfl hl.has hj rfl (fun la' h' => kk p l e R s m args below meth c C H locs cells slots hW hS hc hs la' (hl.set rfl h'))
theorem ev_astore {j : Nat} {x : Nat} (hd : dI k.2.1 pc (.astore j) 2 pc') (hj : j < k.2.2.1) (kk : Sem X k d pc' (ls.set j (some (.ref x))) st M r M' kc ks) : Sem X k d pc ls (.ref x :: st) M r M' kc ks := by
  intro p l e R s m args below meth c C H locs cells slots hW hS hc hs la hl
  obtain ⟨hx, hb, hr, hml, hown, hts, hlk, hnm, hbs, hR, hE, hX⟩ := id C
  obtain ⟨hd, rfl⟩ := hd
  exact lv_astore hx hb hd hl.has hj rfl (fun la' h' => kk p l e R s m args below meth c C H locs cells slots hW hS hc hs la' (hl.set rfl h'))
theorem ev_iinc {j : Nat} {n : Int} {x v : Int32} (hd : dI k.2.1 pc (.iinc j n) 3 pc' ∧ Int32.ofInt n = v) (hj : j < k.2.2.1) (h : ls[j]? = some (some (.int x))) (kk : Sem X k d pc' (ls.set j (some (.int (x + v)))) st M r M' kc ks) : Sem X k d pc ls st M r M' kc ks := by
  intro p l e R s m args below meth c C H locs cells slots hW hS hc hs la hl
  obtain ⟨hx, hb, hr, hml, hown, hts, hlk, hnm, hbs, hR, hE, hX⟩ := id C
  obtain ⟨⟨hd, rfl⟩, hv⟩ := hd
  obtain ⟨q, hq⟩ := List.getElem?_of_mem (kl_mem.mpr h)
  exact lv_iinc hx hb hd hl.has hq (by rw [hv]) hj rfl (fun la' h' => kk p l e R s m args below meth c C H locs cells slots hW hS hc hs la' (hl.set rfl h'))
theorem ev_iadd {x y : Int32} (hd : dI k.2.1 pc .iadd 1 pc') (kk : Sem X k d pc' ls (.int (x + y) :: st) M r M' kc ks) : Sem X k d pc ls (.int y :: .int x :: st) M r M' kc ks := by
  intro p l e R s m args below meth c C H locs cells slots hW hS hc hs la hl
  obtain ⟨hx, hb, hr, hml, hown, hts, hlk, hnm, hbs, hR, hE, hX⟩ := id C
  obtain ⟨hd, rfl⟩ := hd
  exact lv_iadd hx hb hd (kk p l e R s m args below meth c C H locs cells slots hW hS hc hs la hl)
theorem ev_isub {x y : Int32} (hd : dI k.2.1 pc .isub 1 pc') (kk : Sem X k d pc' ls (.int (x - y) :: st) M r M' kc ks) : Sem X k d pc ls (.int y :: .int x :: st) M r M' kc ks := by
  intro p l e R s m args below meth c C H locs cells slots hW hS hc hs la hl
  obtain ⟨hx, hb, hr, hml, hown, hts, hlk, hnm, hbs, hR, hE, hX⟩ := id C
  obtain ⟨hd, rfl⟩ := hd
  exact lv_isub hx hb hd (kk p l e R s m args below meth c C H locs cells slots hW hS hc hs la hl)
theorem ev_imul {x y : Int32} (hd : dI k.2.1 pc .imul 1 pc') (kk : Sem X k d pc' ls (.int (x * y) :: st) M r M' kc ks) : Sem X k d pc ls (.int y :: .int x :: st) M r M' kc ks := by
  intro p l e R s m args below meth c C H locs cells slots hW hS hc hs la hl
  obtain ⟨hx, hb, hr, hml, hown, hts, hlk, hnm, hbs, hR, hE, hX⟩ := id C
  obtain ⟨hd, rfl⟩ := hd
  exact lv_imul hx hb hd (kk p l e R s m args below meth c C H locs cells slots hW hS hc hs la hl)
theorem ev_iand {x y : Int32} (hd : dI k.2.1 pc .iand 1 pc') (kk : Sem X k d pc' ls (.int (x &&& y) :: st) M r M' kc ks) : Sem X k d pc ls (.int y :: .int x :: st) M r M' kc ks := by
  intro p l e R s m args below meth c C H locs cells slots hW hS hc hs la hl
  obtain ⟨hx, hb, hr, hml, hown, hts, hlk, hnm, hbs, hR, hE, hX⟩ := id C
  obtain ⟨hd, rfl⟩ := hd
  exact lv_iand hx hb hd (kk p l e R s m args below meth c C H locs cells slots hW hS hc hs la hl)
theorem ev_ishl {x y : Int32} (hd : dI k.2.1 pc .ishl 1 pc') (kk : Sem X k d pc' ls (.int (x <<< (y &&& 31)) :: st) M r M' kc ks) : Sem X k d pc ls (.int y :: .int x :: st) M r M' kc ks := by
  intro p l e R s m args below meth c C H locs cells slots hW hS hc hs la hl
  obtain ⟨hx, hb, hr, hml, hown, hts, hlk, hnm, hbs, hR, hE, hX⟩ := id C
  obtain ⟨hd, rfl⟩ := hd
  exact lv_ishl hx hb hd (kk p l e R s m args below meth c C H locs cells slots hW hS hc hs la hl)
theorem ev_ishr {x y : Int32} (hd : dI k.2.1 pc .ishr 1 pc') (kk : Sem X k d pc' ls (.int (x >>> (y &&& 31)) :: st) M r M' kc ks) : Sem X k d pc ls (.int y :: .int x :: st) M r M' kc ks := by
  intro p l e R s m args below meth c C H locs cells slots hW hS hc hs la hl
  obtain ⟨hx, hb, hr, hml, hown, hts, hlk, hnm, hbs, hR, hE, hX⟩ := id C
  obtain ⟨hd, rfl⟩ := hd
  exact lv_ishr hx hb hd (kk p l e R s m args below meth c C H locs cells slots hW hS hc hs la hl)
theorem ev_idiv {x y : Int32} (hd : dI k.2.1 pc .idiv 1 pc') (hy : ¬ y = 0) (kk : Sem X k d pc' ls (.int (x / y) :: st) M r M' kc ks) : Sem X k d pc ls (.int y :: .int x :: st) M r M' kc ks := by
  intro p l e R s m args below meth c C H locs cells slots hW hS hc hs la hl
  obtain ⟨hx, hb, hr, hml, hown, hts, hlk, hnm, hbs, hR, hE, hX⟩ := id C
  obtain ⟨hd, rfl⟩ := hd
  exact lv_idiv hx hb hd hy (kk p l e R s m args below meth c C H locs cells slots hW hS hc hs la hl)
theorem ev_irem {x y : Int32} (hd : dI k.2.1 pc .irem 1 pc') (hy : ¬ y = 0) (kk : Sem X k d pc' ls (.int (x - x / y * y) :: st) M r M' kc ks) : Sem X k d pc ls (.int y :: .int x :: st) M r M' kc ks := by
  intro p l e R s m args below meth c C H locs cells slots hW hS hc hs la hl
  obtain ⟨hx, hb, hr, hml, hown, hts, hlk, hnm, hbs, hR, hE, hX⟩ := id C
  obtain ⟨hd, rfl⟩ := hd
  exact lv_irem hx hb hd hy (kk p l e R s m args below meth c C H locs cells slots hW hS hc hs la hl)
theorem ev_iushr {x y : Int32} (hd : dI k.2.1 pc .iushr 1 pc') (kk : Sem X k d pc' ls (.int ((x.toUInt32 >>> (y.toUInt32 &&& Int32.toUInt32 31)).toInt32) :: st) M r M' kc ks) : Sem X k d pc ls (.int y :: .int x :: st) M r M' kc ks := by
  intro p l e R s m args below meth c C H locs cells slots hW hS hc hs la hl
  obtain ⟨hx, hb, hr, hml, hown, hts, hlk, hnm, hbs, hR, hE, hX⟩ := id C
  obtain ⟨hd, rfl⟩ := hd
  exact lv_iushr hx hb hd rfl (kk p l e R s m args below meth c C H locs cells slots hW hS hc hs la hl)
theorem ev_i2b {x : Int32} (hd : dI k.2.1 pc .i2b 1 pc') (kk : Sem X k d pc' ls (.int (x.toInt8.toInt32) :: st) M r M' kc ks) : Sem X k d pc ls (.int x :: st) M r M' kc ks := by
  intro p l e R s m args below meth c C H locs cells slots hW hS hc hs la hl
  obtain ⟨hx, hb, hr, hml, hown, hts, hlk, hnm, hbs, hR, hE, hX⟩ := id C
  obtain ⟨hd, rfl⟩ := hd
  exact lv_i2b hx hb hd rfl (kk p l e R s m args below meth c C H locs cells slots hW hS hc hs la hl)
theorem ev_i2s {x : Int32} (hd : dI k.2.1 pc .i2s 1 pc') (kk : Sem X k d pc' ls (.int (x.toInt16.toInt32) :: st) M r M' kc ks) : Sem X k d pc ls (.int x :: st) M r M' kc ks := by
  intro p l e R s m args below meth c C H locs cells slots hW hS hc hs la hl
  obtain ⟨hx, hb, hr, hml, hown, hts, hlk, hnm, hbs, hR, hE, hX⟩ := id C
  obtain ⟨hd, rfl⟩ := hd
  exact lv_i2s hx hb hd rfl (kk p l e R s m args below meth c C H locs cells slots hW hS hc hs la hl)
theorem ev_i2c {x : Int32} (hd : dI k.2.1 pc .i2c 1 pc') (kk : Sem X k d pc' ls (.int ((x.toUInt32 % 65536).toInt32) :: st) M r M' kc ks) : Sem X k d pc ls (.int x :: st) M r M' kc ks := by
  intro p l e R s m args below meth c C H locs cells slots hW hS hc hs la hl
  obtain ⟨hx, hb, hr, hml, hown, hts, hlk, hnm, hbs, hR, hE, hX⟩ := id C
  obtain ⟨hd, rfl⟩ := hd
  exact lv_i2c hx hb hd rfl (kk p l e R s m args below meth c C H locs cells slots hW hS hc hs la hl)
theorem ev_dup {a : Value} (hd : dI k.2.1 pc .dup 1 pc') (h1 : a.category = 1) (kk : Sem X k d pc' ls (a :: a :: st) M r M' kc ks) : Sem X k d pc ls (a :: st) M r M' kc ks := by
  intro p l e R s m args below meth c C H locs cells slots hW hS hc hs la hl
  obtain ⟨hx, hb, hr, hml, hown, hts, hlk, hnm, hbs, hR, hE, hX⟩ := id C
  obtain ⟨hd, rfl⟩ := hd
  exact lv_dup hx hb hd h1 (kk p l e R s m args below meth c C H locs cells slots hW hS hc hs la hl)
theorem ev_dup_x1 {a b : Value} (hd : dI k.2.1 pc .dup_x1 1 pc') (h1 : a.category = 1) (h2 : b.category = 1) (kk : Sem X k d pc' ls (a :: b :: a :: st) M r M' kc ks) : Sem X k d pc ls (a :: b :: st) M r M' kc ks := by
  intro p l e R s m args below meth c C H locs cells slots hW hS hc hs la hl
  obtain ⟨hx, hb, hr, hml, hown, hts, hlk, hnm, hbs, hR, hE, hX⟩ := id C
  obtain ⟨hd, rfl⟩ := hd
  exact lv_dup_x1 hx hb hd h1 h2 (kk p l e R s m args below meth c C H locs cells slots hW hS hc hs la hl)
theorem ev_dup2 {a b : Value} (hd : dI k.2.1 pc .dup2 1 pc') (h1 : a.category = 1) (h2 : b.category = 1) (kk : Sem X k d pc' ls (a :: b :: a :: b :: st) M r M' kc ks) : Sem X k d pc ls (a :: b :: st) M r M' kc ks := by
  intro p l e R s m args below meth c C H locs cells slots hW hS hc hs la hl
  obtain ⟨hx, hb, hr, hml, hown, hts, hlk, hnm, hbs, hR, hE, hX⟩ := id C
  obtain ⟨hd, rfl⟩ := hd
  exact lv_dup2_11 hx hb hd h1 h2 (kk p l e R s m args below meth c C H locs cells slots hW hS hc hs la hl)
theorem ev_pop {a : Value} (hd : dI k.2.1 pc .pop 1 pc') (h1 : a.category = 1) (kk : Sem X k d pc' ls (st) M r M' kc ks) : Sem X k d pc ls (a :: st) M r M' kc ks := by
  intro p l e R s m args below meth c C H locs cells slots hW hS hc hs la hl
  obtain ⟨hx, hb, hr, hml, hown, hts, hlk, hnm, hbs, hR, hE, hX⟩ := id C
  obtain ⟨hd, rfl⟩ := hd
  exact lv_pop hx hb hd h1 (kk p l e R s m args below meth c C H locs cells slots hW hS hc hs la hl)
theorem ev_icmp_eq {x y : Int32} {off : Int} (hd : dJ k.2.1 pc (.if_icmp .eq off) off pc' tgt) (kt : x = y → Sem X k d tgt ls st M r M' kc ks) (kf : ¬ x = y → Sem X k d pc' ls st M r M' kc ks) : Sem X k d pc ls (.int y :: .int x :: st) M r M' kc ks := by
  intro p l e R s m args below meth c C H locs cells slots hW hS hc hs la hl
  obtain ⟨hx, hb, hr, hml, hown, hts, hlk, hnm, hbs, hR, hE, hX⟩ := id C
  obtain ⟨hd, rfl, ht⟩ := hd
  exact lv_icmp_eq hx hb hd ht (fun h => kt h p l e R s m args below meth c C H locs cells slots hW hS hc hs la hl) (fun h => kf h p l e R s m args below meth c C H locs cells slots hW hS hc hs la hl)
theorem ev_if_eq {x : Int32} {off : Int} (hd : dJ k.2.1 pc (.ifCond .eq off) off pc' tgt) (kt : x = 0 → Sem X k d tgt ls st M r M' kc ks) (kf : ¬ x = 0 → Sem X k d pc' ls st M r M' kc ks) : Sem X k d pc ls (.int x :: st) M r M' kc ks := by
  intro p l e R s m args below meth c C H locs cells slots hW hS hc hs la hl
  obtain ⟨hx, hb, hr, hml, hown, hts, hlk, hnm, hbs, hR, hE, hX⟩ := id C
  obtain ⟨hd, rfl, ht⟩ := hd
  exact lv_if_eq hx hb hd ht (fun h => kt h p l e R s m args below meth c C H locs cells slots hW hS hc hs la hl) (fun h => kf h p l e R s m args below meth c C H locs cells slots hW hS hc hs la hl)
theorem ev_icmp_ne {x y : Int32} {off : Int} (hd : dJ k.2.1 pc (.if_icmp .ne off) off pc' tgt) (kt : ¬ x = y → Sem X k d tgt ls st M r M' kc ks) (kf : x = y → Sem X k d pc' ls st M r M' kc ks) : Sem X k d pc ls (.int y :: .int x :: st) M r M' kc ks := by
  intro p l e R s m args below meth c C H locs cells slots hW hS hc hs la hl
  obtain ⟨hx, hb, hr, hml, hown, hts, hlk, hnm, hbs, hR, hE, hX⟩ := id C
  obtain ⟨hd, rfl, ht⟩ := hd
  exact lv_icmp_ne hx hb hd ht (fun h => kt h p l e R s m args below meth c C H locs cells slots hW hS hc hs la hl) (fun h => kf h p l e R s m args below meth c C H locs cells slots hW hS hc hs la hl)
theorem ev_if_ne {x : Int32} {off : Int} (hd : dJ k.2.1 pc (.ifCond .ne off) off pc' tgt) (kt : ¬ x = 0 → Sem X k d tgt ls st M r M' kc ks) (kf : x = 0 → Sem X k d pc' ls st M r M' kc ks) : Sem X k d pc ls (.int x :: st) M r M' kc ks := by
  intro p l e R s m args below meth c C H locs cells slots hW hS hc hs la hl
  obtain ⟨hx, hb, hr, hml, hown, hts, hlk, hnm, hbs, hR, hE, hX⟩ := id C
  obtain ⟨hd, rfl, ht⟩ := hd
  exact lv_if_ne hx hb hd ht (fun h => kt h p l e R s m args below meth c C H locs cells slots hW hS hc hs la hl) (fun h => kf h p l e R s m args below meth c C H locs cells slots hW hS hc hs la hl)
theorem ev_icmp_lt {x y : Int32} {off : Int} (hd : dJ k.2.1 pc (.if_icmp .lt off) off pc' tgt) (kt : x < y → Sem X k d tgt ls st M r M' kc ks) (kf : ¬ x < y → Sem X k d pc' ls st M r M' kc ks) : Sem X k d pc ls (.int y :: .int x :: st) M r M' kc ks := by
  intro p l e R s m args below meth c C H locs cells slots hW hS hc hs la hl
  obtain ⟨hx, hb, hr, hml, hown, hts, hlk, hnm, hbs, hR, hE, hX⟩ := id C
  obtain ⟨hd, rfl, ht⟩ := hd
  exact lv_icmp_lt hx hb hd ht (fun h => kt h p l e R s m args below meth c C H locs cells slots hW hS hc hs la hl) (fun h => kf h p l e R s m args below meth c C H locs cells slots hW hS hc hs la hl)
theorem ev_if_lt {x : Int32} {off : Int} (hd : dJ k.2.1 pc (.ifCond .lt off) off pc' tgt) (kt : x < 0 → Sem X k d tgt ls st M r M' kc ks) (kf : ¬ x < 0 → Sem X k d pc' ls st M r M' kc ks) : Sem X k d pc ls (.int x :: st) M r M' kc ks := by
  intro p l e R s m args below meth c C H locs cells slots hW hS hc hs la hl
  obtain ⟨hx, hb, hr, hml, hown, hts, hlk, hnm, hbs, hR, hE, hX⟩ := id C
  obtain ⟨hd, rfl, ht⟩ := hd
  exact lv_if_lt hx hb hd ht (fun h => kt h p l e R s m args below meth c C H locs cells slots hW hS hc hs la hl) (fun h => kf h p l e R s m args below meth c C H locs cells slots hW hS hc hs la hl)
theorem ev_icmp_ge {x y : Int32} {off : Int} (hd : dJ k.2.1 pc (.if_icmp .ge off) off pc' tgt) (kt : y ≤ x → Sem X k d tgt ls st M r M' kc ks) (kf : ¬ y ≤ x → Sem X k d pc' ls st M r M' kc ks) : Sem X k d pc ls (.int y :: .int x :: st) M r M' kc ks := by
  intro p l e R s m args below meth c C H locs cells slots hW hS hc hs la hl
  obtain ⟨hx, hb, hr, hml, hown, hts, hlk, hnm, hbs, hR, hE, hX⟩ := id C
  obtain ⟨hd, rfl, ht⟩ := hd
  exact lv_icmp_ge hx hb hd ht (fun h => kt h p l e R s m args below meth c C H locs cells slots hW hS hc hs la hl) (fun h => kf h p l e R s m args below meth c C H locs cells slots hW hS hc hs la hl)
theorem ev_if_ge {x : Int32} {off : Int} (hd : dJ k.2.1 pc (.ifCond .ge off) off pc' tgt) (kt : 0 ≤ x → Sem X k d tgt ls st M r M' kc ks) (kf : ¬ 0 ≤ x → Sem X k d pc' ls st M r M' kc ks) : Sem X k d pc ls (.int x :: st) M r M' kc ks := by
  intro p l e R s m args below meth c C H locs cells slots hW hS hc hs la hl
  obtain ⟨hx, hb, hr, hml, hown, hts, hlk, hnm, hbs, hR, hE, hX⟩ := id C
  obtain ⟨hd, rfl, ht⟩ := hd
  exact lv_if_ge hx hb hd ht (fun h => kt h p l e R s m args below meth c C H locs cells slots hW hS hc hs la hl) (fun h => kf h p l e R s m args below meth c C H locs cells slots hW hS hc hs la hl)
theorem ev_icmp_gt {x y : Int32} {off : Int} (hd : dJ k.2.1 pc (.if_icmp .gt off) off pc' tgt) (kt : y < x → Sem X k d tgt ls st M r M' kc ks) (kf : ¬ y < x → Sem X k d pc' ls st M r M' kc ks) : Sem X k d pc ls (.int y :: .int x :: st) M r M' kc ks := by
  intro p l e R s m args below meth c C H locs cells slots hW hS hc hs la hl
  obtain ⟨hx, hb, hr, hml, hown, hts, hlk, hnm, hbs, hR, hE, hX⟩ := id C
  obtain ⟨hd, rfl, ht⟩ := hd
  exact lv_icmp_gt hx hb hd ht (fun h => kt h p l e R s m args below meth c C H locs cells slots hW hS hc hs la hl) (fun h => kf h p l e R s m args below meth c C H locs cells slots hW hS hc hs la hl)
theorem ev_if_gt {x : Int32} {off : Int} (hd : dJ k.2.1 pc (.ifCond .gt off) off pc' tgt) (kt : 0 < x → Sem X k d tgt ls st M r M' kc ks) (kf : ¬ 0 < x → Sem X k d pc' ls st M r M' kc ks) : Sem X k d pc ls (.int x :: st) M r M' kc ks := by
  intro p l e R s m args below meth c C H locs cells slots hW hS hc hs la hl
  obtain ⟨hx, hb, hr, hml, hown, hts, hlk, hnm, hbs, hR, hE, hX⟩ := id C
  obtain ⟨hd, rfl, ht⟩ := hd
  exact lv_if_gt hx hb hd ht (fun h => kt h p l e R s m args below meth c C H locs cells slots hW hS hc hs la hl) (fun h => kf h p l e R s m args below meth c C H locs cells slots hW hS hc hs la hl)
theorem ev_icmp_le {x y : Int32} {off : Int} (hd : dJ k.2.1 pc (.if_icmp .le off) off pc' tgt) (kt : x ≤ y → Sem X k d tgt ls st M r M' kc ks) (kf : ¬ x ≤ y → Sem X k d pc' ls st M r M' kc ks) : Sem X k d pc ls (.int y :: .int x :: st) M r M' kc ks := by
  intro p l e R s m args below meth c C H locs cells slots hW hS hc hs la hl
  obtain ⟨hx, hb, hr, hml, hown, hts, hlk, hnm, hbs, hR, hE, hX⟩ := id C
  obtain ⟨hd, rfl, ht⟩ := hd
  exact lv_icmp_le hx hb hd ht (fun h => kt h p l e R s m args below meth c C H locs cells slots hW hS hc hs la hl) (fun h => kf h p l e R s m args below meth c C H locs cells slots hW hS hc hs la hl)
theorem ev_if_le {x : Int32} {off : Int} (hd : dJ k.2.1 pc (.ifCond .le off) off pc' tgt) (kt : x ≤ 0 → Sem X k d tgt ls st M r M' kc ks) (kf : ¬ x ≤ 0 → Sem X k d pc' ls st M r M' kc ks) : Sem X k d pc ls (.int x :: st) M r M' kc ks := by
  intro p l e R s m args below meth c C H locs cells slots hW hS hc hs la hl
  obtain ⟨hx, hb, hr, hml, hown, hts, hlk, hnm, hbs, hR, hE, hX⟩ := id C
  obtain ⟨hd, rfl, ht⟩ := hd
  exact lv_if_le hx hb hd ht (fun h => kt h p l e R s m args below meth c C H locs cells slots hW hS hc hs la hl) (fun h => kf h p l e R s m args below meth c C H locs cells slots hW hS hc hs la hl)
theorem ev_goto {off : Int} (hd : dJ k.2.1 pc (.goto off) off pc' tgt) (kk : Sem X k d tgt ls st M r M' kc ks) : Sem X k d pc ls st M r M' kc ks := by
  intro p l e R s m args below meth c C H locs cells slots hW hS hc hs la hl
  obtain ⟨hx, hb, hr, hml, hown, hts, hlk, hnm, hbs, hR, hE, hX⟩ := id C
  obtain ⟨hd, rfl, ht⟩ := hd
  exact lv_goto hx hb hd ht (kk p l e R s m args below meth c C H locs cells slots hW hS hc hs la hl)
theorem ev_table_in {dflt lo hi : Int} {offs : Array Int} {len : Nat} {x : Int32} {off : Int} (hd : decode k.2.1 pc = .ok (.tableswitch dflt lo hi offs, len)) (h1 : ¬ x.toInt < lo) (h2 : ¬ hi < x.toInt) (ho : offs[(x.toInt - lo).toNat]? = some off) (ht : (pc : Int) + off = (tgt : Int)) (kk : Sem X k d tgt ls st M r M' kc ks) : Sem X k d pc ls (.int x :: st) M r M' kc ks := by
  intro p l e R s m args below meth c C H locs cells slots hW hS hc hs la hl
  obtain ⟨hx, hb, hr, hml, hown, hts, hlk, hnm, hbs, hR, hE, hX⟩ := id C
  exact lv_tableIn hx hb hd h1 h2 ho ht (kk p l e R s m args below meth c C H locs cells slots hW hS hc hs la hl)
theorem ev_table_out {dflt lo hi : Int} {offs : Array Int} {len : Nat} {x : Int32} (hd : decode k.2.1 pc = .ok (.tableswitch dflt lo hi offs, len)) (h : x.toInt < lo ∨ hi < x.toInt) (ht : (pc : Int) + dflt = (tgt : Int)) (kk : Sem X k d tgt ls st M r M' kc ks) : Sem X k d pc ls (.int x :: st) M r M' kc ks := by
  intro p l e R s m args below meth c C H locs cells slots hW hS hc hs la hl
  obtain ⟨hx, hb, hr, hml, hown, hts, hlk, hnm, hbs, hR, hE, hX⟩ := id C
  exact lv_tableOut hx hb hd h ht (kk p l e R s m args below meth c C H locs cells slots hW hS hc hs la hl)
theorem ev_lookup {dflt : Int} {ps : Array (Int × Int)} {len : Nat} {x : Int32} {off : Int} (hd : decode k.2.1 pc = .ok (.lookupswitch dflt ps, len)) (hp : (ps.toList.zip (ps.toList.drop 1)).all (fun (a, next) => a.1 < next.1) = true) (ho : Op.lookupswitch.offset ps.toList dflt x.toInt = off) (ht : (pc : Int) + off = (tgt : Int)) (kk : Sem X k d tgt ls st M r M' kc ks) : Sem X k d pc ls (.int x :: st) M r M' kc ks := by
  intro p l e R s m args below meth c C H locs cells slots hW hS hc hs la hl
  obtain ⟨hx, hb, hr, hml, hown, hts, hlk, hnm, hbs, hR, hE, hX⟩ := id C
  exact lv_lookup hx hb hd hp ho ht (kk p l e R s m args below meth c C H locs cells slots hW hS hc hs la hl)
theorem ev_ireturn {v : Int32} {ty : FieldType} (hd : decode k.2.1 pc = .ok (.ireturn, 1)) (ht : k.2.2.2 = some ty) (hn : narrow ty (.int v) = .int v) : Sem X k d pc ls [.int v] M (some (.int v)) M 0 0 := by
  intro p l e R s m args below meth c C H locs cells slots hW hS hc hs la hl
  obtain ⟨hx, hb, hr, hml, hown, hts, hlk, hnm, hbs, hR, hE, hX⟩ := id C
  exact W.zret hx hb (hr.trans ht) hn (fun t ht hWt => ⟨rfl, by rw [ht]; exact hW, hS.F ht⟩) hS.2.2 hd hlk
theorem ev_areturn {a : Nat} {nm : String} (hd : decode k.2.1 pc = .ok (.areturn, 1)) (ht : k.2.2.2 = some (.object nm)) : Sem X k d pc ls [.ref a] M (some (.ref a)) M 0 0 := by
  intro p l e R s m args below meth c C H locs cells slots hW hS hc hs la hl
  obtain ⟨hx, hb, hr, hml, hown, hts, hlk, hnm, hbs, hR, hE, hX⟩ := id C
  exact W.aret hx hb (hr.trans ht) (Or.inl ⟨_, rfl⟩) (Or.inr ⟨_, rfl⟩) (fun t ht hWt => ⟨rfl, by rw [ht]; exact hW, hS.F ht⟩) hS.2.2 hd hlk
theorem ev_return (hd : decode k.2.1 pc = .ok (.return_, 1)) (ht : k.2.2.2 = none) : Sem X k d pc ls [] M none M 0 0 := by
  intro p l e R s m args below meth c C H locs cells slots hW hS hc hs la hl
  obtain ⟨hx, hb, hr, hml, hown, hts, hlk, hnm, hbs, hR, hE, hX⟩ := id C
  exact W.vret hx hb (hr.trans ht) (fun t ht hWt => ⟨rfl, by rw [ht]; exact hW, hS.F ht⟩) hS.2.2 hd hlk
theorem Sem.eq {r2 : Option Value} {M2 : List va_E} (h : Sem X k d pc ls st M r M' kc ks) (hr : r = r2) (hM : M' = M2) : Sem X k d pc ls st M r2 M2 kc ks := by
  subst hr; subst hM; exact h
end RULES
end
section
theorem i_L : ∀ w ∈ u_ws R_L F_L 2, w ∈ tables_1 ∧ goodWord w = true := by decide +kernel
theorem i_C : ∀ w ∈ u_ws R_C F_C 7, w ∈ tables_1 ∧ goodWord w = true := by decide +kernel
theorem i_H : ∀ w ∈ u_ws R_H F_H 5, w ∈ tables_1 ∧ goodWord w = true := by decide +kernel
theorem i_T : ∀ w ∈ u_ws R_T F_T 3, w ∈ tables_1 ∧ goodWord w = true := by decide +kernel
theorem i_P : ∀ w ∈ u_ws R_P F_P 6, w ∈ tables_1 ∧ goodWord w = true := by decide +kernel
theorem i_S : ∀ w ∈ u_ws R_S F_S 10, w ∈ tables_1 ∧ goodWord w = true := by decide +kernel
theorem i_M : ∀ w ∈ u_ws R_M F_M 16, w ∈ tables_1 ∧ goodWord w = true := by decide +kernel
theorem TG_of {w : Cond} (h : w ∈ tables_1 ∧ goodWord w = true) : w ∈ TG := List.mem_filter.mpr ⟨List.mem_append_right _ h.1, h.2⟩
theorem i_cls (ci : Nat) (q : vw_C) (h : cls[ci]? = some q) : ∀ w ∈ u_ws q.1 q.2.1 q.2.2, w ∈ TG := by
  match ci, h with
  | 0, h => cases h; exact fun w hw => TG_of (i_L w hw)
  | 1, h => cases h; exact fun w hw => TG_of (i_C w hw)
  | 2, h => cases h; exact fun w hw => TG_of (i_H w hw)
  | 3, h => cases h; exact fun w hw => TG_of (i_T w hw)
  | 4, h => cases h; exact fun w hw => TG_of (i_P w hw)
  | 5, h => cases h; exact fun w hw => TG_of (i_S w hw)
  | 6, h => cases h; exact fun w hw => TG_of (i_M w hw)
  | i + 7, h => simp [cls] at h
theorem t_cls (ci : Nat) (q : vw_C) (h : cls[ci]? = some q) : ∀ k, k < q.2.2 → parseFieldDescriptor (q.2.1 k).2.2.1 = some (clsT ci k) := by
  match ci, h with
  | 0, h => cases h; exact ft_L_ok
  | 1, h => cases h; exact ft_C_ok
  | 2, h => cases h; exact ft_H_ok
  | 3, h => cases h; exact ft_T_ok
  | 4, h => cases h; exact ft_P_ok
  | 5, h => cases h; exact ft_S_ok
  | 6, h => cases h; exact ft_M_ok
  | i + 7, h => simp [cls] at h
theorem n_cls (ci : Nat) (q : vw_C) (h : cls[ci]? = some q) : ∀ a, a < q.2.2 → ∀ b, b < q.2.2 → a ≠ b → (q.2.1 a).2.1 ≠ (q.2.1 b).2.1 := by
  match ci, h with
  | 0, h => cases h; exact n_L
  | 1, h => cases h; exact n_C
  | 2, h => cases h; exact n_H
  | 3, h => cases h; exact n_T
  | 4, h => cases h; exact n_P
  | 5, h => cases h; exact n_S
  | 6, h => cases h; exact n_M
  | i + 7, h => simp [cls] at h
def FLk (own : String) (idx ci j : Nat) : Prop := ∃ q : vw_C, cls[ci]? = some q ∧ j < q.2.2 ∧ (q.2.1 j).1 = q.1 ∧ Cond.fieldLink own idx q.1 (q.2.1 j).2.1 (q.2.1 j).2.2.1 ∈ TG
def FinK (ci j : Nat) (b : Bool) : Prop := ∃ q : vw_C, cls[ci]? = some q ∧ (q.2.1 j).2.2.2 = b
theorem Wd.st {X : xC} {M : List va_E} {H H1 : Heap} {c0 : Nat} {e1 : va_E} (hW : Wd X M H) (hP : va_P (xD X) cls ((toW (xB X) M).set c0 (xB X + c0, e1)) H1) (hz : H1.size = H.size) : Wd X (M.set c0 e1) H1 := by
  rw [toW_set] at hP
  exact ⟨hP, by rw [hz, hW.2, List.length_set]⟩
theorem Wd.push {X : xC} {M : List va_E} {H H1 : Heap} {e1 : va_E} (hW : Wd X M H) (hk : ∀ q, q < H.size → H1[q]? = H[q]?) (hz : H1.size = H.size + 1) (he : va_at (xD X) cls (H.size, e1) H1) : Wd X (M ++ [e1]) H1 := by
  refine ⟨?_, by rw [hz, hW.2, List.length_append, List.length_singleton, Nat.add_assoc]⟩
  rw [← toW_push]
  refine (hW.1.kept (fun i q hq => hk q.1 (hW.1 i q hq).lt)).app (fun i q hq => ?_)
  have hz : i < 1 := (List.getElem?_eq_some_iff.mp hq).1
  rw [show i = 0 by omega] at hq
  cases hq
  rw [← hW.2]
  exact he
section MEM
variable {X : xC} {k : Mth} {d pc pc' tgt : Nat} {ls : List (Option Value)} {st : List Value} {M M' : List va_E} {r : Option Value} {kc ks : Nat}
theorem ev_get {idx c0 ci j : Nat} {fs : List Value} {v : Value} (hd : dI k.2.1 pc (.getfield idx) 3 pc') (hf : FLk k.1.cls idx ci j) (hM : M[c0]? = some (.inr (ci, fs))) (hv : fs[j]? = some v) (kk : Sem X k d pc' ls (v :: st) M r M' kc ks) : Sem X k d pc ls (.ref (xB X + c0) :: st) M r M' kc ks := by
  intro p l e R s m args below meth c C H locs cells slots hW hS hc hs la hl
  obtain ⟨hx, hb, hr, hml, hown, hts, hlk, hnm, hbs, hR, hE, hX⟩ := id C
  obtain ⟨hd, rfl⟩ := hd
  obtain ⟨⟨Cn, T, N⟩, h1, h2, h3, h4⟩ := hf
  exact va_get hx hb hts (i_cls ci _ h1) hown hE.1 hW.1 c0 (toW_get hM) h1 j h2 (hts _ h4) (fun x h => by rw [h3] at h; exact h) hv hd (kk p l e R s m args below meth c C H locs cells slots hW hS hc hs la hl)
theorem ev_put {idx c0 ci j : Nat} {fs : List Value} {v : Value} (hd : dI k.2.1 pc (.putfield idx) 3 pc') (hf : FLk k.1.cls idx ci j) (hfin : FinK ci j false) (hM : M[c0]? = some (.inr (ci, fs))) (hn : narrow (clsT ci j) v = v) (hfit : fits (clsT ci j) v = true) (hlf : j < fs.length) (kk : Sem X k d pc' ls st (M.set c0 (.inr (ci, fs.set j v))) r M' kc ks) : Sem X k d pc ls (v :: .ref (xB X + c0) :: st) M r M' kc ks := by
  intro p l e R s m args below meth c C H locs cells slots hW hS hc hs la hl
  obtain ⟨hx, hb, hr, hml, hown, hts, hlk, hnm, hbs, hR, hE, hX⟩ := id C
  obtain ⟨hd, rfl⟩ := hd
  obtain ⟨⟨Cn, T, N⟩, h1, h2, h3, h4⟩ := hf
  obtain ⟨q', h5, h6⟩ := hfin
  cases h1.symm.trans h5
  have hap := va_apart (own := k.1.cls) hts (i_cls ci _ h1) (clsT ci) (t_cls ci _ h1) (n_cls ci _ h1) hE.1 h1
  obtain ⟨rr, g1, cell, q1, q2, q3, q4⟩ := hW.1 c0 _ (toW_get hM)
  have hrr : rr = (Cn, T, N) := Option.some.inj (g1.symm.trans h1)
  subst hrr
  obtain ⟨hSl, hfc, kC, hkC, hkind⟩ := hE.1.1 ci _ h1
  obtain ⟨cf, kf, fi, f, hi, hsl⟩ := hSl j h2
  have hlay := hts _ (i_cls ci _ h1 _ (u_in_lay h2))
  unfold u_lay at hlay
  rw [if_neg (by rw [h6]; decide)] at hlay
  have hst := (u_facts hfc hkC (u_lays hts (i_cls ci _ h1) h2) hi).1
  have h7 := u_store hfc hkC hkind hlay hi (t_cls ci _ h1 j h2) hn hfit
  refine W.putK hx hb (f := f) ⟨hown, hts _ h4, ⟨_, _, _, by rw [← h3]; exact hi⟩, hst⟩ (by rw [q2]; exact h7) q1 q3 (by rw [hsl]; exact k2_hasslot (q4 j h2)) rfl rfl hd fun H' e1 e2 e3 => ?_
  rw [hsl] at e1 ⊢
  have hP' := va_P.set hW.1 (toW_D (b := xB X)) (toW_get hM) (e := .inr (ci, fs.set j v)) ⟨_, h1, t_OB.to (V := updV (vp_V fs) j v) ⟨_, e1, q2, q3, t_set q4 hap h2 v⟩ (fun i _ => vp_updV_set hlf v i)⟩ e3
  exact kk p l e R s m args below meth c C H' _ cells slots (hW.st hP' e2) (hS.put e2 e3 (Nat.le_add_right _ _)) hc hs la hl
theorem ev_putF {idx c0 ci j : Nat} {fs : List Value} {v : Value} (hd : dI k.2.1 pc (.putfield idx) 3 pc') (hf : FLk k.1.cls idx ci j) (hfin : FinK ci j true) (hin : k.1.name = "<init>") (hcl : (cls[ci]?).map (fun q => q.1) = some k.1.cls) (hM : M[c0]? = some (.inr (ci, fs))) (hn : narrow (clsT ci j) v = v) (hfit : fits (clsT ci j) v = true) (hlf : j < fs.length) (kk : Sem X k d pc' ls st (M.set c0 (.inr (ci, fs.set j v))) r M' kc ks) : Sem X k d pc ls (v :: .ref (xB X + c0) :: st) M r M' kc ks := by
  intro p l e R s m args below meth c C H locs cells slots hW hS hc hs la hl
  obtain ⟨hx, hb, hr, hml, hown, hts, hlk, hnm, hbs, hR, hE, hX⟩ := id C
  obtain ⟨hd, rfl⟩ := hd
  obtain ⟨⟨Cn, T, N⟩, h1, h2, h3, h4⟩ := hf
  obtain ⟨q', h5, h6⟩ := hfin
  cases h1.symm.trans h5
  have hap := va_apart (own := k.1.cls) hts (i_cls ci _ h1) (clsT ci) (t_cls ci _ h1) (n_cls ci _ h1) hE.1 h1
  obtain ⟨rr, g1, cell, q1, q2, q3, q4⟩ := hW.1 c0 _ (toW_get hM)
  have hrr : rr = (Cn, T, N) := Option.some.inj (g1.symm.trans h1)
  subst hrr
  obtain ⟨hSl, hfc, kC, hkC, hkind⟩ := hE.1.1 ci _ h1
  obtain ⟨cf, kf, fi, f, hi, hsl⟩ := hSl j h2
  have hlay := hts _ (i_cls ci _ h1 _ (u_in_lay h2))
  unfold u_lay at hlay
  rw [if_pos h6] at hlay
  have hst := (u_facts hfc hkC (u_lays hts (i_cls ci _ h1) h2) hi).1
  have hdecl : (T j).1 = k.1.cls := by rw [h1] at hcl; rw [h3]; exact Option.some.inj hcl
  have hcf : m.cls = cf := by
    obtain ⟨_, _, c', _, _, _, -, -, hf', -, -, -, hown2, -⟩ := Cond.laysFinal_spec hlay
    have e1 : c' = cf := by have := hi.symm.trans hf'; simp at this; exact this.1.symm
    rw [hdecl] at hown2
    rw [← e1]; exact Option.some.inj (hown.symm.trans hown2)
  have h7 := u_fits hfc hkC hkind (Or.inr hlay) hi (t_cls ci _ h1 j h2) hn hfit
  refine W.putFinK hx hb hown (hts _ h4) (by rw [← h3]; exact hi) hst hcf (hnm.trans hin) (by rw [q2]; exact h7) q1 q3 (by rw [hsl]; exact k2_hasslot (q4 j h2)) rfl rfl hd fun H' e1 e2 e3 => ?_
  rw [hsl] at e1 ⊢
  have hP' := va_P.set hW.1 (toW_D (b := xB X)) (toW_get hM) (e := .inr (ci, fs.set j v)) ⟨_, h1, t_OB.to (V := updV (vp_V fs) j v) ⟨_, e1, q2, q3, t_set q4 hap h2 v⟩ (fun i _ => vp_updV_set hlf v i)⟩ e3
  exact kk p l e R s m args below meth c C H' _ cells slots (hW.st hP' e2) (hS.put e2 e3 (Nat.le_add_right _ _)) hc hs la hl
theorem ev_iald {c0 n : Nat} {f : Nat → Int32} {i : Int32} (hd : dI k.2.1 pc .iaload 1 pc') (hM : M[c0]? = some (.inl (xI X, n, .inl f))) (hi : vp_in i n) (kk : Sem X k d pc' ls (.int (f i.toNatClampNeg) :: st) M r M' kc ks) : Sem X k d pc ls (.int i :: .ref (xB X + c0) :: st) M r M' kc ks := by
  intro p l e R s m args below meth c C H locs cells slots hW hS hc hs la hl
  obtain ⟨hx, hb, hr, hml, hown, hts, hlk, hnm, hbs, hR, hE, hX⟩ := id C
  obtain ⟨hd, rfl⟩ := hd
  exact va_iald hx hb hE.1 hW.1 c0 0 (toW_get hM) rfl hi hd (kk p l e R s m args below meth c C H locs cells slots hW hS hc hs la hl)
theorem ev_iast {c0 n : Nat} {f : Nat → Int32} {i x : Int32} (hd : dI k.2.1 pc .iastore 1 pc') (hM : M[c0]? = some (.inl (xI X, n, .inl f))) (hi : vp_in i n) (kk : Sem X k d pc' ls st (M.set c0 (.inl (xI X, n, .inl (upd f i.toNatClampNeg x)))) r M' kc ks) : Sem X k d pc ls (.int x :: .int i :: .ref (xB X + c0) :: st) M r M' kc ks := by
  intro p l e R s m args below meth c C H locs cells slots hW hS hc hs la hl
  obtain ⟨hx, hb, hr, hml, hown, hts, hlk, hnm, hbs, hR, hE, hX⟩ := id C
  obtain ⟨hd, rfl⟩ := hd
  refine W.iast hx hb (hW.1 c0 _ (toW_get hM)) ((hE.1.2 0 _ rfl).1 n (fun j => .int (f j))) (fun q => by cases q) (by show ¬ (i < 0 ∨ (arrV _ _ _).slots.size ≤ _); rw [arrV_size]; exact hi) rfl rfl hd fun H1 e z oq => ?_
  have hP' := va_P.set hW.1 (toW_D (b := xB X)) (toW_get hM) (e := .inl (xI X, n, .inl (upd f i.toNatClampNeg x))) (H1 := H1) (by
    show H1[xB X + c0]? = some (vp_cell _ _)
    rw [e]
    rw [vp_cell_i, vp_cell_i, arrV_store]
    congr 2
    funext q
    by_cases hq : q = i.toNatClampNeg
    · subst hq
      simp [updV, upd]
    · simp [updV, upd, hq]) oq
  exact kk p l _ R s m args below meth c C H1 _ cells slots (hW.st hP' z) (hS.put z oq (Nat.le_add_right _ _)) hc hs la hl
theorem ev_aald {c0 t n a : Nat} {cA : ClassId} {C : String} {f : Nat → Option Nat} {i : Int32} (hd : dI k.2.1 pc .aaload 1 pc') (hM : M[c0]? = some (.inl (cA, n, .inr (.inr (.inr (.inr f)))))) (ht : (xTys X)[t]? = some (cA, .object C)) (hi : vp_in i n) (hf : f i.toNatClampNeg = some a) (kk : Sem X k d pc' ls (.ref a :: st) M r M' kc ks) : Sem X k d pc ls (.int i :: .ref (xB X + c0) :: st) M r M' kc ks := by
  intro p l e R s m args below meth c C H locs cells slots hW hS hc hs la hl
  obtain ⟨hx, hb, hr, hml, hown, hts, hlk, hnm, hbs, hR, hE, hX⟩ := id C
  obtain ⟨hd, rfl⟩ := hd
  refine va_aldq hx hb hE.1 hW.1 c0 t (toW_get hM) ht hi hd ?_
  rw [hf]
  exact (kk p l e R s m args below meth c C H locs cells slots hW hS hc hs la hl)
theorem ev_aast {c0 c1 ci t n : Nat} {cA : ClassId} {q : vw_C} {vs : List Value} {f : Nat → Option Nat} {i : Int32} (hd : dI k.2.1 pc .aastore 1 pc') (hM : M[c0]? = some (.inl (cA, n, .inr (.inr (.inr (.inr f)))))) (ht : (xTys X)[t]? = some (cA, .object q.1)) (hv : M[c1]? = some (.inr (ci, vs))) (hq : cls[ci]? = some q) (hi : vp_in i n) (kk : Sem X k d pc' ls st (M.set c0 (.inl (cA, n, .inr (.inr (.inr (.inr (va_up f i.toNatClampNeg (some (xB X + c1))))))))) r M' kc ks) : Sem X k d pc ls (.ref (xB X + c1) :: .int i :: .ref (xB X + c0) :: st) M r M' kc ks := by
  intro p l e R s m args below meth c C H locs cells slots hW hS hc hs la hl
  obtain ⟨hx, hb, hr, hml, hown, hts, hlk, hnm, hbs, hR, hE, hX⟩ := id C
  obtain ⟨hd, rfl⟩ := hd
  have hlt : i.toNatClampNeg < n := Nat.not_le.mp fun q => hi (Or.inr q)
  have h0 : ¬ i < 0 := fun q => hi (Or.inl q)
  obtain ⟨r', hr', cellV, g1, g2, g3, -⟩ := hW.1 c1 _ (toW_get hv)
  have hcls := (hE.1.1 ci q hq).2
  obtain ⟨kA, comp, k1, k2, k3, -⟩ := (hE.1.2 t _ ht).2
  have hcomp : comp = (xD X).1 ci := Option.some.inj (k3.symm.trans hcls.1)
  subst hcomp
  obtain ⟨kC, hkC, -⟩ := hcls.2
  refine W.aast hx hb (hW.1 c0 _ (toW_get hM)) (fun q h => by cases h) (fun h => by cases h) k1 k2 rfl hkC ⟨h0, by show _ < (arrV _ _ _).slots.size; rw [arrV_size]; exact hlt⟩ g1 (fun q h => by rw [g3] at h; cases h) (by rw [g2]; exact hkC) (by rw [g2]; exact va_assign hcls) rfl rfl hd fun H1 e z oq => ?_
  have hP' := va_P.set hW.1 (toW_D (b := xB X)) (toW_get hM) (e := .inl (cA, n, .inr (.inr (.inr (.inr (va_up f i.toNatClampNeg (some (xB X + c1)))))))) (H1 := H1) (by
    show H1[xB X + c0]? = some (vp_cell _ _)
    rw [e]
    rw [vp_cell_q, vp_cell_q, arrV_store]
    congr 2
    funext q
    by_cases hq : q = i.toNatClampNeg
    · subst hq
      simp [updV, va_up, va_rf]
    · simp [updV, va_up, hq]) oq
  exact kk p l _ R s m args below meth c C H1 _ cells slots (hW.st hP' z) (hS.put z oq (Nat.le_add_right _ _)) hc hs la hl
theorem ev_alen {c0 n : Nat} {f : Nat → Int32} {v : Int32} (hd : dI k.2.1 pc .arraylength 1 pc') (hM : M[c0]? = some (.inl (xI X, n, .inl f))) (hv : Int32.ofNat n = v) (kk : Sem X k d pc' ls (.int v :: st) M r M' kc ks) : Sem X k d pc ls (.ref (xB X + c0) :: st) M r M' kc ks := by
  intro p l e R s m args below meth c C H locs cells slots hW hS hc hs la hl
  obtain ⟨hx, hb, hr, hml, hown, hts, hlk, hnm, hbs, hR, hE, hX⟩ := id C
  obtain ⟨hd, rfl⟩ := hd
  exact va_alen hx hb hE.1 hW.1 c0 0 (toW_get hM) (ty := .int) rfl hv hd (kk p l e R s m args below meth c C H locs cells slots hW hS hc hs la hl)
theorem ev_mmax {idx : Nat} {x y : Int32} (hd : dI k.2.1 pc (.invokestatic idx) 3 pc') (hw : Cond.methodLink k.1.cls idx Lib.Math.max.name ∈ TG) (hst : (st.map fun v => v.category).sum ≤ 8) (kk : Sem X k (d + 1) pc' ls (.int (if x < y then y else x) :: st) M r M' kc ks) : Sem X k (d + 1) pc ls (.int y :: .int x :: st) M r M' kc ks := by
  intro p l e R s m args below meth c C H locs cells slots hW hS hc hs la hl
  obtain ⟨hx, hb, hr, hml, hown, hts, hlk, hnm, hbs, hR, hE, hX⟩ := id C
  obtain ⟨hd, rfl⟩ := hd
  exact va_mmax hx hb (by rw [hml, hl.1.1]) hown (hts _ hw) (hts _ (TG_at 302 (by decide +kernel) (by decide +kernel))) (hts _ (TG_at 9 (by decide +kernel) (by decide +kernel))) (hts _ (TG_at 303 (by decide +kernel) (by decide +kernel))) (by omega) (by omega) (by omega) (by omega) hd (kk p l e R s m args below meth c C H locs cells slots hW hS hc hs la hl)
theorem ev_mmin {idx : Nat} {x y : Int32} (hd : dI k.2.1 pc (.invokestatic idx) 3 pc') (hw : Cond.methodLink k.1.cls idx Lib.Math.min.name ∈ TG) (hst : (st.map fun v => v.category).sum ≤ 8) (kk : Sem X k (d + 1) pc' ls (.int (if y < x then y else x) :: st) M r M' kc ks) : Sem X k (d + 1) pc ls (.int y :: .int x :: st) M r M' kc ks := by
  intro p l e R s m args below meth c C H locs cells slots hW hS hc hs la hl
  obtain ⟨hx, hb, hr, hml, hown, hts, hlk, hnm, hbs, hR, hE, hX⟩ := id C
  obtain ⟨hd, rfl⟩ := hd
  exact va_mmin hx hb (by rw [hml, hl.1.1]) hown (hts _ hw) (hts _ (TG_at 305 (by decide +kernel) (by decide +kernel))) (hts _ (TG_at 9 (by decide +kernel) (by decide +kernel))) (hts _ (TG_at 306 (by decide +kernel) (by decide +kernel))) (by omega) (by omega) (by omega) (by omega) hd (kk p l e R s m args below meth c C H locs cells slots hW hS hc hs la hl)
end MEM
end
section
theorem lva_mem : ∀ (As : List Value), (∀ v ∈ As, v.category = 1) → ∀ (i0 i : Nat) (v : Value), As[i]? = some v → (i0 + i, v) ∈ lv_args i0 As
  | [], _, i0, i, v, h => by simp at h
  | a :: As, hc, i0, 0, v, h => by
    rw [List.getElem?_cons_zero] at h
    cases h
    exact List.mem_cons_self
  | a :: As, hc, i0, i + 1, v, h => by
    rw [List.getElem?_cons_succ] at h
    have h1 := lva_mem As (fun v hv => hc v (List.mem_cons_of_mem _ hv)) (i0 + 1) i v h
    show (i0 + (i + 1), v) ∈ (i0, a) :: lv_args (if a.category = 2 then i0 + 2 else i0 + 1) As
    rw [if_neg (by rw [hc a List.mem_cons_self]; decide)]
    rw [show i0 + (i + 1) = i0 + 1 + i by omega]
    exact List.mem_cons_of_mem _ h1
theorem lg_len : ∀ (As : List Value), (∀ v ∈ As, v.category = 1) → (lg_sl As).length = As.length
  | [], _ => rfl
  | a :: As, hc => by
    have h1 := lg_len As (fun v hv => hc v (List.mem_cons_of_mem _ hv))
    have h2 := hc a List.mem_cons_self
    simp only [lg_sl, List.flatMap_cons, List.length_append, List.length_cons] at h1 ⊢
    rw [h1, if_neg (by rw [h2]; decide)]
    simp only [List.length_singleton]
    omega
theorem cat_cons {a : Value} {As : List Value} (h : a.category = 1) (hc : ∀ v ∈ As, v.category = 1) : ∀ v ∈ a :: As, v.category = 1 := fun v hv => (List.mem_cons.mp hv).elim (fun e => e ▸ h) (hc v)
abbrev ini (k : Mth) (As : List Value) : List (Option Value) := As.map some ++ List.replicate (k.2.2.1 - As.length) none
theorem ini_LV {k : Mth} {As : List Value} (hc : ∀ v ∈ As, v.category = 1) (hn : As.length ≤ k.2.2.1) : LV k.2.2.1 (ini k As) ((lg_sl As ++ List.replicate (k.2.2.1 - (lg_sl As).length) Slot.unset).toArray) := by
  have h := lv_entry As (n := k.2.2.1) (by rw [lg_len As hc]; exact hn)
  refine ⟨⟨h.1, h.2.1, fun q hq => by cases hq⟩, fun i v hi => ?_⟩
  have hA : As[i]? = some v := by
    by_cases hl : i < As.length
    · rw [List.getElem?_append_left (by simpa using hl), List.getElem?_map] at hi
      cases ha : As[i]? with
      | none => rw [ha] at hi; cases hi
      | some w => rw [ha] at hi; simpa using hi
    · rw [List.getElem?_append_right (by simpa using hl)] at hi
      have := List.eq_of_mem_replicate (List.mem_of_getElem? hi)
      cases this
  have h1 := lva_mem As hc 0 i v hA
  rw [Nat.zero_add] at h1
  exact ⟨h.2.2 (i, v) h1, hc v (List.mem_of_getElem? hA)⟩
abbrev Pcm (X : xC) (M : List va_E) (As : List Value) : Array Value → State → Prop := va_Pc As (fun U => EnvOK X U ∧ Wd X M U.heap)
abbrev rmM (d kc ks : Nat) : Room := { frames := d, cells := kc, slots := ks, locals := d * 64 }
theorem Met_of {X : xC} {k : Mth} {d : Nat} {M M' : List va_E} {r : Option Value} {kc ks : Nat} {As : List Value} (hX : XOK X) (hp : plainName k.1.cls = true) (hc : ∀ v ∈ As, v.category = 1) (hn : As.length ≤ k.2.2.1) (h : Sem X k d 0 (ini k As) [] M r M' kc ks) (l : Launch) :
    Met l k.1 (wsM k) (rmM d kc ks) (Pcm X M As) (Qs X r M') kc ks (fun q => xB X ≤ q) := by
  refine Met.ofW (cc := k.2.1) (maxL := k.2.2.1) (ret := k.2.2.2) hp rfl ?_
  intro p e s m args below meth c s₁ B hml hv
  obtain ⟨rfl, hE, hW⟩ := hv
  have hts := atoms_spec (ws := wsM k) B.pre
  rw [lg_entry_eq]
  have h1 := h p l e (headSpec (wsM k) (rmM d kc ks)).room s m _ below meth c ⟨B.exec, B.bytes, B.returns, hml, findClass_of_methodNamed B.named, fun w hw => hts w (List.mem_cons_of_mem _ hw), B.notSynchronized, (name_of_methodNamed B.named B.method).1, by rw [hW.2]; exact Nat.le_add_right _ _, ⟨Nat.le_refl _, Nat.le_refl _⟩, hE, hX⟩ s.heap [] 0 0 hW va_S.rf (by rw [Nat.zero_add]; exact Nat.le_refl _) (by rw [Nat.zero_add]; exact Nat.le_refl _) _ (ini_LV hc hn)
  rw [Nat.zero_add, Nat.zero_add] at h1
  exact h1
theorem Pcm_blind {X : xC} {M : List va_E} {As : List Value} (hX : XOK X) : FrameBlind (Pcm X M As) := fun a U g mk h => ⟨h.1, EnvOK.move hX (State.WarmedH.refl U) (fun _ _ => rfl) h.2.1, h.2.2⟩
theorem Pcm_at {X : xC} {M : List va_E} {As : List Value} (hX : XOK X) {s : State} {H : Heap} {locs : List Loc} (hE : EnvOK X s) (hW : Wd X M H) (hS : va_S (fun q => xB X ≤ q) s.heap H locs) (hbs : xB X ≤ s.heap.size) : ∀ U : State, U.heap = H → s.WarmedH U.vm → Pcm X M As As.toArray U :=
  fun U hU hWm => ⟨rfl, EnvOK.move hX hWm (fun q hq => by rw [hU]; exact hS.2.1 q (Nat.lt_of_lt_of_le hq hbs) (Nat.not_le.mpr hq)) hE, by rw [hU]; exact hW⟩
theorem my_call {p : Program} {l : Launch} {e : Env} {R : Room} {s : State} {m : MethodId} {args : Array Value} {below : List Frame} {meth : Method} {c : Code} {H : Heap} {locs : List Loc} {cells slots mc ms : Nat} {Q : State → Prop} {pc : Nat} {la : Array Slot} {rest st0 : List Value} {a : Array Value} {X : xC} {r1 : Option Value} {M1 : List va_E}
    (hr : va_Run p l e R s m args below meth c H locs cells slots mc ms (F0 m pc la st0) rest (Qs X r1 M1 a) (fun q => xB X ≤ q)) (hS : va_S (fun q => xB X ≤ q) s.heap H locs)
    (kk : ∀ (H1 : Heap) (locs1 : List Loc), Wd X M1 H1 → va_S (fun q => xB X ≤ q) s.heap H1 locs1 → W p l e R s m args below meth c H1 locs1 (cells + mc) (slots + ms) Q (F0 m (pc + 3) la (r1.toList ++ rest))) : W p l e R s m args below meth c H locs cells slots Q (F0 m pc la st0) := by
  intro T hT Y
  obtain ⟨v, st₀, t, T', L, h0, X', hL, e1, e2, ⟨hv, hW1, hz, hk⟩, stp⟩ := hr T hT Y
  cases hv
  rw [h0] at hz hk
  obtain ⟨t2, a1, b1⟩ := kk T'.heap (locs ++ L) (by rw [e1]; exact hW1) ⟨Nat.le_trans hS.1 (by rw [e1]; exact hz), fun q h1 h2 => by rw [e1, hk q (Nat.lt_of_lt_of_le h1 hS.1) h2]; exact hS.2.1 q h1 h2, fun q hq => by
      rcases List.mem_append.mp hq with h | h
      · exact hS.2.2 q h
      · exact hL q h⟩ T' rfl X'
  exact ⟨t2, stp t2 a1, b1⟩
/-- what a call asks of the method called, n arguments behind the receiver -/
def CalK (k2 : Mth) (n : Nat) : Prop := Cond.initialized k2.1.cls ∈ TG ∧ Cond.code k2.1 k2.2.1 k2.2.2.1 k2.2.2.2 ∈ TG ∧ plainName k2.1.cls = true ∧ (k2.1.cls ≠ "java/lang/invoke/MethodHandle" ∧ k2.1.cls ≠ "java/lang/invoke/VarHandle") ∧ (parseMethodDescriptor k2.1.desc).map (fun d => d.parameters.length) = some n ∧ k2.2.2.1 ≤ 45
def StaK (k2 : Mth) (n : Nat) : Prop := CalK k2 n ∧ Cond.static k2.1 ∈ TG ∧ n ≤ k2.2.2.1
def InsK (k2 : Mth) (n : Nat) : Prop := CalK k2 n ∧ Cond.instanceMethod k2.1 ∈ TG ∧ n + 1 ≤ k2.2.2.1
def VirK (k2 : Mth) (n : Nat) : Prop := InsK k2 n ∧ Cond.selects k2.1.cls k2.1 k2.1 ∈ TG
theorem CalK.good {k2 : Mth} {n : Nat} (h : CalK k2 n) : GoodIn TG (wsM k2) := fun w hw => by
  rcases List.mem_cons.mp hw with rfl | h1
  · exact TG_good _ h.2.1
  · exact TG_good _ h1
theorem CalK.B {k2 : Mth} {n d d' kc ks : Nat} {R : Room} {s : State} {args : Array Value} {own : String} {idx : Nat} (h : CalK k2 n) (hts : ∀ w ∈ TG, w.before args s = true) (hl : (Cond.methodLink own idx k2.1).before args s = true) (hR : d + 1 ≤ R.frames ∧ (d + 1) * 64 ≤ R.locals) :
    CallB R s args own idx k2.1 k2.2.1 k2.2.2.1 k2.2.2.2 (wsM k2) (rmM d kc ks) kc ks n := by
  obtain ⟨h1, h2, h3, h4, h5, h6⟩ := id h
  refine ⟨rfl, rfl, hR.1, ?_, pay_in hts h.good, List.mem_cons_self, hts _ h2, hts _ h1, h4, fun sig hs => ?_, hl⟩
  · show 8 + (k2.2.2.1 + 11) + d * 64 ≤ R.locals
    have := hR.2
    omega
  · rw [hs] at h5
    exact (Option.some.inj h5).symm
theorem CalK.N {k2 : Mth} {n d d' kc ks : Nat} {R : Room} {s : State} {args : Array Value} {own host : String} {idx : Nat} (h : CalK k2 n) (hts : ∀ w ∈ TG, w.before args s = true) (hl : va_Nw (.methodLinkNest own idx k2.1 host) s) (hR : d + 1 ≤ R.frames ∧ (d + 1) * 64 ≤ R.locals) :
    va_CN R s args own idx k2.1 host k2.2.1 k2.2.2.1 k2.2.2.2 (wsM k2) (rmM d kc ks) kc ks n := by
  obtain ⟨h1, h2, h3, h4, h5, h6⟩ := id h
  refine ⟨⟨rfl, rfl, hR.1, ?_, pay_in hts h.good, List.mem_cons_self⟩, hts _ h2, hts _ h1, h4, fun sig hs => ?_, va_Nw.use rfl hl⟩
  · show 8 + (k2.2.2.1 + 11) + d * 64 ≤ R.locals
    have := hR.2
    omega
  · rw [hs] at h5
    exact (Option.some.inj h5).symm
section CALL
variable {X : xC} {k : Mth} {d pc pc' tgt : Nat} {ls : List (Option Value)} {st : List Value} {M M' : List va_E} {r : Option Value} {kc ks : Nat}
variable {k2 : Mth} {idx : Nat} {As : List Value} {r1 : Option Value} {M1 : List va_E} {k1 s1 : Nat}
theorem ev_callS (hd : dI k.2.1 pc (.invokestatic idx) 3 pc') (hw : Cond.methodLink k.1.cls idx k2.1 ∈ TG) (hk : StaK k2 As.length) (hca : ∀ v ∈ As, v.category = 1) (hst : (st.map fun v => v.category).sum ≤ 8) (h : Sem X k2 d 0 (ini k2 As) [] M r1 M1 k1 s1) (kk : Sem X k (d + 1) pc' ls (r1.toList ++ st) M1 r M' kc ks) : Sem X k (d + 1) pc ls (As.reverse ++ st) M r M' (k1 + kc) (s1 + ks) := by
  intro p l e R s m args below meth c C H locs cells slots hW hS hc hs la hl
  obtain ⟨hx, hb, hr, hml, hown, hts, hlk, hnm, hbs, hR, hE, hX⟩ := id C
  obtain ⟨hd, rfl⟩ := hd
  refine my_call (va_runS (As := As) (rest := st) ⟨hx, hb, hml, hown, hts⟩ (Met_of hX hk.1.2.2.1 hca hk.2.2 h l) ⟨hk.1.B (d' := d) hts (hts _ hw) hR, hts _ hk.2.1⟩ ⟨Pcm_blind hX, Pcm_at hX hE hW hS hbs⟩ rfl rfl hl.1.1 rfl (lv_room hst) hd ⟨by omega, by omega⟩) hS (fun H1 locs1 hW1 hS1 => ?_)
  have h2 := kk p l e R s m args below meth c C H1 locs1 (cells + k1) (slots + s1) hW1 hS1 (by omega) (by omega) la hl
  rw [Nat.add_assoc, Nat.add_assoc] at h2
  exact h2
theorem ev_callSN {host : String} (hd : dI k.2.1 pc (.invokestatic idx) 3 pc') (hw : (k.1.cls, idx, k2.1, host) ∈ nests) (hk : StaK k2 As.length) (hca : ∀ v ∈ As, v.category = 1) (hst : (st.map fun v => v.category).sum ≤ 8) (h : Sem X k2 d 0 (ini k2 As) [] M r1 M1 k1 s1) (kk : Sem X k (d + 1) pc' ls (r1.toList ++ st) M1 r M' kc ks) : Sem X k (d + 1) pc ls (As.reverse ++ st) M r M' (k1 + kc) (s1 + ks) := by
  intro p l e R s m args below meth c C H locs cells slots hW hS hc hs la hl
  obtain ⟨hx, hb, hr, hml, hown, hts, hlk, hnm, hbs, hR, hE, hX⟩ := id C
  obtain ⟨hd, rfl⟩ := hd
  refine my_call (va_runSN (As := As) (rest := st) ⟨hx, hb, hml, hown, hts⟩ (Met_of hX hk.1.2.2.1 hca hk.2.2 h l) ⟨hk.1.N (d' := d) hts (hE.2.1 _ hw) hR, hts _ hk.2.1, trivial⟩ ⟨Pcm_blind hX, Pcm_at hX hE hW hS hbs⟩ rfl rfl hl.1.1 rfl (lv_room hst) hd ⟨by omega, by omega⟩) hS (fun H1 locs1 hW1 hS1 => ?_)
  have h2 := kk p l e R s m args below meth c C H1 locs1 (cells + k1) (slots + s1) hW1 hS1 (by omega) (by omega) la hl
  rw [Nat.add_assoc, Nat.add_assoc] at h2
  exact h2
theorem ev_callV {c0 ci : Nat} {fs : List Value} {q : vw_C} (hd : dI k.2.1 pc (.invokevirtual idx) 3 pc') (hw : Cond.methodLink k.1.cls idx k2.1 ∈ TG) (hk : VirK k2 As.length) (hM : M[c0]? = some (.inr (ci, fs))) (hq : cls[ci]? = some q) (hC : q.1 = k2.1.cls) (hca : ∀ v ∈ As, v.category = 1) (hst : (st.map fun v => v.category).sum ≤ 8) (h : Sem X k2 d 0 (ini k2 (.ref (xB X + c0) :: As)) [] M r1 M1 k1 s1) (kk : Sem X k (d + 1) pc' ls (r1.toList ++ st) M1 r M' kc ks) : Sem X k (d + 1) pc ls (As.reverse ++ .ref (xB X + c0) :: st) M r M' (k1 + kc) (s1 + ks) := by
  intro p l e R s m args below meth c C H locs cells slots hW hS hc hs la hl
  obtain ⟨hx, hb, hr, hml, hown, hts, hlk, hnm, hbs, hR, hE, hX⟩ := id C
  obtain ⟨hd, rfl⟩ := hd
  refine my_call (va_runV (As := As) (rest := st) ⟨hx, hb, hml, hown, hts⟩ (Met_of hX hk.1.1.2.2.1 (As := .ref (xB X + c0) :: As) (cat_cons rfl hca) hk.1.2.2 h l) ⟨hk.1.1.B (d' := d) hts (hts _ hw) hR, hts _ hk.1.2.1, hts _ hk.2⟩ ⟨Pcm_blind hX, (by rw [← hC]; exact va_recv hE.1 hW.1 hq (toW_get hM)), Pcm_at hX hE hW hS hbs⟩ rfl rfl hl.1.1 rfl (lv_room hst) hd ⟨by omega, by omega⟩) hS (fun H1 locs1 hW1 hS1 => ?_)
  have h2 := kk p l e R s m args below meth c C H1 locs1 (cells + k1) (slots + s1) hW1 hS1 (by omega) (by omega) la hl
  rw [Nat.add_assoc, Nat.add_assoc] at h2
  exact h2
theorem ev_callI {c0 : Nat} (hd : dI k.2.1 pc (.invokespecial idx) 3 pc') (hw : Cond.methodLink k.1.cls idx k2.1 ∈ TG) (hk : InsK k2 As.length) (hin : k2.1.name = "<init>") (hrt : k2.2.2.2 = none) (hca : ∀ v ∈ As, v.category = 1) (hst : (st.map fun v => v.category).sum ≤ 8) (h : Sem X k2 d 0 (ini k2 (.ref (xB X + c0) :: As)) [] M r1 M1 k1 s1) (kk : Sem X k (d + 1) pc' ls (r1.toList ++ st) M1 r M' kc ks) : Sem X k (d + 1) pc ls (As.reverse ++ .ref (xB X + c0) :: st) M r M' (k1 + kc) (s1 + ks) := by
  intro p l e R s m args below meth c C H locs cells slots hW hS hc hs la hl
  obtain ⟨hx, hb, hr, hml, hown, hts, hlk, hnm, hbs, hR, hE, hX⟩ := id C
  obtain ⟨hd, rfl⟩ := hd
  have hB := hk.1.B (d := d) (d' := d) (kc := k1) (ks := s1) hts (hts _ hw) hR
  rw [hrt] at hB
  refine my_call (va_runI (As := As) (rest := st) ⟨hx, hb, hml, hown, hts⟩ (Met_of hX hk.1.2.2.1 (As := .ref (xB X + c0) :: As) (cat_cons rfl hca) hk.2.2 h l) ⟨hB, hin, hts _ hk.2.1⟩ ⟨Pcm_blind hX, Pcm_at hX hE hW hS hbs⟩ rfl rfl hl.1.1 rfl (lv_room hst) hd ⟨by omega, by omega⟩) hS (fun H1 locs1 hW1 hS1 => ?_)
  have h2 := kk p l e R s m args below meth c C H1 locs1 (cells + k1) (slots + s1) hW1 hS1 (by omega) (by omega) la hl
  rw [Nat.add_assoc, Nat.add_assoc] at h2
  exact h2
theorem ev_callIN {c0 : Nat} {host : String} (hd : dI k.2.1 pc (.invokespecial idx) 3 pc') (hw : (k.1.cls, idx, k2.1, host) ∈ nests) (hk : InsK k2 As.length) (hin : k2.1.name = "<init>") (hrt : k2.2.2.2 = none) (hca : ∀ v ∈ As, v.category = 1) (hst : (st.map fun v => v.category).sum ≤ 8) (h : Sem X k2 d 0 (ini k2 (.ref (xB X + c0) :: As)) [] M r1 M1 k1 s1) (kk : Sem X k (d + 1) pc' ls (r1.toList ++ st) M1 r M' kc ks) : Sem X k (d + 1) pc ls (As.reverse ++ .ref (xB X + c0) :: st) M r M' (k1 + kc) (s1 + ks) := by
  intro p l e R s m args below meth c C H locs cells slots hW hS hc hs la hl
  obtain ⟨hx, hb, hr, hml, hown, hts, hlk, hnm, hbs, hR, hE, hX⟩ := id C
  obtain ⟨hd, rfl⟩ := hd
  have hB := hk.1.N (d := d) (d' := d) (kc := k1) (ks := s1) hts (hE.2.1 _ hw) hR
  rw [hrt] at hB
  refine my_call (va_runIN (As := As) (rest := st) ⟨hx, hb, hml, hown, hts⟩ (Met_of hX hk.1.2.2.1 (As := .ref (xB X + c0) :: As) (cat_cons rfl hca) hk.2.2 h l) ⟨hB, hin, hts _ hk.2.1⟩ ⟨Pcm_blind hX, Pcm_at hX hE hW hS hbs⟩ rfl rfl hl.1.1 rfl (lv_room hst) hd ⟨by omega, by omega⟩) hS (fun H1 locs1 hW1 hS1 => ?_)
  have h2 := kk p l e R s m args below meth c C H1 locs1 (cells + k1) (slots + s1) hW1 hS1 (by omega) (by omega) la hl
  rw [Nat.add_assoc, Nat.add_assoc] at h2
  exact h2
theorem ev_objInit {a : Nat} (hd : dI k.2.1 pc (.invokespecial idx) 3 pc') (hw : Cond.methodLink k.1.cls idx Lib.objectInit ∈ TG) (hst : (st.map fun v => v.category).sum ≤ 8) (kk : Sem X k (d + 1) pc' ls st M r M' kc ks) : Sem X k (d + 1) pc ls (.ref a :: st) M r M' kc ks := by
  intro p l e R s m args below meth c C H locs cells slots hW hS hc hs la hl
  obtain ⟨hx, hb, hr, hml, hown, hts, hlk, hnm, hbs, hR, hE, hX⟩ := id C
  obtain ⟨hd, rfl⟩ := hd
  exact W.objInit hx hb hown (hts _ hw) (hts _ (TG_at 21 (by decide +kernel) (by decide +kernel))) (hts _ (TG_at 22 (by decide +kernel) (by decide +kernel))) rfl (by rw [hml]; exact hl.1.1) rfl hd (by omega) (by show 2 * 0 + _ + 12 ≤ _; omega) (kk p l e R s m args below meth c C H locs cells slots hW hS hc hs la hl)
theorem ev_new {c0 ci : Nat} {q : vw_C} {fs : List Value} (hd : dI k.2.1 pc (.new idx) 3 pc') (hq : cls[ci]? = some q) (hw : Cond.classLink k.1.cls idx q.1 ∈ TG) (hi : Cond.instantiable q.1 q.2.2 ∈ TG) (hn : Cond.initialized q.1 ∈ TG) (hfs : ∀ j, j < q.2.2 → defaultValue (clsT ci j) = vp_V fs j) (hlen : M.length = c0) (kk : Sem X k d pc' ls (.ref (xB X + c0) :: st) (M ++ [.inr (ci, fs)]) r M' kc ks) : Sem X k d pc ls st M r M' (1 + kc) (q.2.2 + ks) := by
  intro p l e R s m args below meth c C H locs cells slots hW hS hc hs la hl
  obtain ⟨hx, hb, hr, hml, hown, hts, hlk, hnm, hbs, hR, hE, hX⟩ := id C
  obtain ⟨hd, rfl⟩ := hd
  have hKn := hE.1.1 ci _ hq
  refine W.newcK hx hb hown (hts _ hw) (hts _ hi) (hts _ hn) rfl hd (by omega) (by omega) hKn.2.1 rfl fun H1 kC hkC e1 z1 o1 => ?_
  have hW1 : Wd X (M ++ [.inr (ci, fs)]) H1 := hW.push o1 z1 ⟨_, hq, (u_born (clsT ci) hts (i_cls ci _ hq) hKn hkC e1 (t_cls ci _ hq)).to hfs⟩
  have h2 := kk p l e R s m args below meth c C H1 locs (cells + 1) (slots + q.2.2) hW1 ⟨Nat.le_trans hS.1 (by omega), fun x h1 h2 => (o1 x (Nat.lt_of_lt_of_le h1 hS.1)).trans (hS.2.1 x h1 h2), hS.2.2⟩ (by omega) (by omega) la hl
  rw [Nat.add_assoc, Nat.add_assoc] at h2
  rw [hW.2, hlen]
  exact h2
theorem ev_newa {c0 N : Nat} {n : Int32} (hd : dI k.2.1 pc (.newarray .int) 2 pc') (hn : ¬ n < 0) (hN : n.toNatClampNeg = N) (hb4 : N ≤ 1000000) (hlen : M.length = c0) (hxI : ∀ U, EnvOK X U → U.vm.findClass "[I" = some (xI X)) (kk : Sem X k d pc' ls (.ref (xB X + c0) :: st) (M ++ [.inl (xI X, N, .inl (fun _ => 0))]) r M' kc ks) : Sem X k d pc ls (.int n :: st) M r M' (1 + kc) (N + ks) := by
  intro p l e R s m args below meth c C H locs cells slots hW hS hc hs la hl
  obtain ⟨hx, hb, hr, hml, hown, hts, hlk, hnm, hbs, hR, hE, hX⟩ := id C
  obtain ⟨hd, rfl⟩ := hd
  refine va_newaK (atype := .int) hx hb (hts _ (TG_at 45 (by decide +kernel) (by decide +kernel))) rfl hd rfl hn hN (by show N * 4 ≤ _; omega) (by omega) (by omega) rfl fun H1 cA e1 z1 o1 hAr hNm => ?_
  have hcA : cA = xI X := Option.some.inj (hNm.symm.trans (hxI s hE))
  subst hcA
  have hW1 : Wd X (M ++ [.inl (xI X, N, .inl (fun _ => 0))]) H1 := hW.push o1 z1 (by
    show H1[H.size]? = some (vp_cell _ _)
    rw [e1, vp_cell_i]
    rfl)
  have h2 := kk p l e R s m args below meth c C H1 locs (cells + 1) (slots + N) hW1 ⟨Nat.le_trans hS.1 (by omega), fun x h1 h2 => (o1 x (Nat.lt_of_lt_of_le h1 hS.1)).trans (hS.2.1 x h1 h2), hS.2.2⟩ (by omega) (by omega) la hl
  rw [Nat.add_assoc, Nat.add_assoc] at h2
  rw [hW.2, hlen]
  exact h2
theorem ev_newq {c0 N t : Nat} {cA : ClassId} {Cn : String} {n : Int32} (hd : dI k.2.1 pc (.anewarray idx) 3 pc') (hw : Cond.classLink k.1.cls idx Cn ∈ TG) (hao : ∀ U, EnvOK X U → va_AO Cn U) (hn : ¬ n < 0) (hN : n.toNatClampNeg = N) (hb4 : N ≤ 1000000) (hlen : M.length = c0) (ht : (xTys X)[t]? = some (cA, .object Cn)) (kk : Sem X k d pc' ls (.ref (xB X + c0) :: st) (M ++ [.inl (cA, N, .inr (.inr (.inr (.inr (fun _ => none)))))]) r M' kc ks) : Sem X k d pc ls (.int n :: st) M r M' (1 + kc) (N + ks) := by
  intro p l e R s m args below meth c C H locs cells slots hW hS hc hs la hl
  obtain ⟨hx, hb, hr, hml, hown, hts, hlk, hnm, hbs, hR, hE, hX⟩ := id C
  obtain ⟨hd, rfl⟩ := hd
  subst hN
  refine W.anew hx hb hown (hts _ hw) (va_AO.use (hao s hE)) rfl hd rfl hn (by omega) (by omega) (by omega) fun cA' kA comp f1 f2 f3 f4 => ?_
  obtain ⟨kA2, comp2, w1, w2, w3, w4⟩ := (hE.1.2 t _ ht).2
  have hcA : cA' = cA := Option.some.inj (f1.symm.trans w4)
  subst hcA
  generalize hH1 : H.push ({ cls := cA', slots := Array.replicate n.toNatClampNeg .null, vm := .none } : Cell) = H1
  have z1 : H1.size = H.size + 1 := by rw [← hH1, Array.size_push]
  have e1 : H1[H.size]? = some (arrV cA' n.toNatClampNeg (fun _ => .null)) := by rw [← hH1, Array.getElem?_push_size, ← arrV_new]
  have o1 : ∀ q : Nat, q < H.size → H1[q]? = H[q]? := fun q hq => by rw [← hH1, Array.getElem?_push, if_neg (Nat.ne_of_lt hq)]
  have hW1 : Wd X (M ++ [.inl (cA', n.toNatClampNeg, .inr (.inr (.inr (.inr (fun _ => none)))))]) H1 := hW.push o1 z1 (by
    show H1[H.size]? = some (vp_cell _ _)
    rw [vp_cell_q]
    exact e1)
  have h2 := kk p l e R s m args below meth c C H1 locs (cells + 1) (slots + n.toNatClampNeg) hW1 ⟨Nat.le_trans hS.1 (by omega), fun x h1 h2 => (o1 x (Nat.lt_of_lt_of_le h1 hS.1)).trans (hS.2.1 x h1 h2), hS.2.2⟩ (by omega) (by omega) la hl
  rw [Nat.add_assoc, Nat.add_assoc] at h2
  rw [hW.2, hlen]
  exact h2
theorem nfw : nativeFrameWords "java/lang/System" "arraycopy" 5 + 11 ≤ 56 := by decide +kernel
theorem ev_copy {c0 c1 n0 n1 : Nat} {f g : Nat → Int32} {sp dp n : Int32} (hd : dI k.2.1 pc (.invokestatic idx) 3 pc') (hw : Cond.methodLink k.1.cls idx arraycopyName ∈ TG) (hst : (st.map fun v => v.category).sum ≤ 8) (hM0 : M[c0]? = some (.inl (xI X, n0, .inl f))) (hM1 : M[c1]? = some (.inl (xI X, n1, .inl g))) (h1 : ¬ sp < 0) (h2 : ¬ dp < 0) (h3 : ¬ n < 0) (h4 : sp.toNatClampNeg + n.toNatClampNeg ≤ n0) (h5 : dp.toNatClampNeg + n.toNatClampNeg ≤ n1)
    (kk : Sem X k (d + 1) pc' ls st (M.set c1 (.inl (xI X, n1, .inl (va_cpy f g sp.toNatClampNeg dp.toNatClampNeg n.toNatClampNeg)))) r M' kc ks) : Sem X k (d + 1) pc ls (.int n :: .int dp :: .ref (xB X + c1) :: .int sp :: .ref (xB X + c0) :: st) M r M' kc ks := by
  intro p l e R s m args below meth c C H locs cells slots hW hS hc hs la hl
  obtain ⟨hx, hb, hr, hml, hown, hts, hlk, hnm, hbs, hR, hE, hX⟩ := id C
  obtain ⟨hd, rfl⟩ := hd
  have nn : ∀ z : Int32, ¬ z < 0 → z.toInt = (z.toNatClampNeg : Int) := by
    intro z hz
    have hz0 : (0 : Int) ≤ z.toInt := by
      have := Int32.not_lt.mp hz
      simpa using Int32.le_iff_toInt_le.mp this
    show z.toInt = ((z.toInt.toNat : Nat) : Int)
    omega
  intro T hT Y
  have hc0 : H[xB X + c0]? = some (vp_cell (xI X) (n0, .inl f)) := hW.1 c0 _ (toW_get hM0)
  have hc1 : H[xB X + c1]? = some (vp_cell (xI X) (n1, .inl g)) := hW.1 c1 _ (toW_get hM1)
  obtain ⟨-, k0, hk0, cm0, hkk0⟩ := (hE.1.2 0 _ rfl).1 n0 (fun j => .int (f j))
  obtain ⟨-, kb, hkb, cm1, hkk1⟩ := (hE.1.2 0 _ rfl).1 n1 (fun j => .int (g j))
  obtain ⟨vm', X', step⟩ := Y.arraycopy hx hown (hts _ hw) (hts _ (TG_at 327 (by decide +kernel) (by decide +kernel))) (hts _ (TG_at 326 (by decide +kernel) (by decide +kernel))) (hts _ (TG_at 10 (by decide +kernel) (by decide +kernel))) (src := xB X + c0) (dst := xB X + c1) (cs := vp_cell (xI X) (n0, .inl f)) (cd := vp_cell (xI X) (n1, .inl g)) (srcPos := sp) (destPos := dp) (n := n) (by rw [hT]; exact hc0) (by rw [hT]; exact hc1)
    (fun _ h => by cases h) (fun _ h => by cases h) (fun h => by cases h) (fun h => by cases h) hk0 hkb hkk0 hkk1 (by simp [refKind]) h1 h2 h3
    (by rw [nn sp h1, nn n h3]; show ¬ _ > ((arrV (xI X) n0 (fun j => .int (f j))).slots.size : Int); rw [arrV_size]; omega)
    (by rw [nn dp h2, nn n h3]; show ¬ _ > ((arrV (xI X) n1 (fun j => .int (g j))).slots.size : Int); rw [arrV_size]; omega)
    (fun vm₁ _ i hi => by
      have e : (vp_cell (xI X) (n0, .inl f)).slots.getD (sp.toNatClampNeg + i) .null = .int (f (sp.toNatClampNeg + i)) := by
        show (arrV (xI X) n0 (fun j => .int (f j))).slots.getD _ _ = _
        rw [Array.getD_eq_getD_getElem?, arrV_read _ _ (by omega)]
        rfl
      refine ⟨?_, ?_⟩
      · rw [e]
        rfl
      · rw [e]
        exact trivial)
    (g := F0 m pc la (.int n :: .int dp :: .ref (xB X + c1) :: .int sp :: .ref (xB X + c0) :: st)) rfl (by rw [hml]; exact hl.1.1) (rest := st) rfl (by rw [hb]; exact hd) (by omega) (by show 2 * 0 + _ + (nativeFrameWords "java/lang/System" "arraycopy" 5 + 11) ≤ _; exact Nat.le_trans (Nat.add_le_add (by omega) nfw) (by omega : 8 + 56 ≤ _))
  have e1 : copied (vp_cell (xI X) (n0, .inl f)) (vp_cell (xI X) (n1, .inl g)) sp dp n = vp_cell (xI X) (n1, .inl (va_cpy f g sp.toNatClampNeg dp.toNatClampNeg n.toNatClampNeg)) := va_copied (fun z => .int z) (xI X) (xI X) f g h4
  rw [e1] at X' step
  have hlt : xB X + c1 < H.size := (Array.getElem?_eq_some_iff.mp hc1).1
  have hheap : ((T.setVm vm').setCell (xB X + c1) (vp_cell (xI X) (n1, .inl (va_cpy f g sp.toNatClampNeg dp.toNatClampNeg n.toNatClampNeg)))).heap = H.setIfInBounds (xB X + c1) (vp_cell (xI X) (n1, .inl (va_cpy f g sp.toNatClampNeg dp.toNatClampNeg n.toNatClampNeg))) := by rw [← hT]; rfl
  have oq : ∀ q : Nat, q ≠ xB X + c1 → (H.setIfInBounds (xB X + c1) (vp_cell (xI X) (n1, .inl (va_cpy f g sp.toNatClampNeg dp.toNatClampNeg n.toNatClampNeg))))[q]? = H[q]? := fun q hq => by simp [Array.getElem?_setIfInBounds, Ne.symm hq]
  have hP' := va_P.set hW.1 (toW_D (b := xB X)) (toW_get hM1) (e := .inl (xI X, n1, .inl (va_cpy f g sp.toNatClampNeg dp.toNatClampNeg n.toNatClampNeg))) (show (H.setIfInBounds (xB X + c1) _)[xB X + c1]? = some _ by simp [Array.getElem?_setIfInBounds, hlt]) oq
  obtain ⟨t, a1, b1⟩ := kk p l e R s m args below meth c C _ _ cells slots (hW.st hP' (by simp)) ⟨by simp; exact hS.1, fun q g1 g2 => by
      rw [oq q (fun e => g2 (by rw [e]; exact Nat.le_add_right _ _))]
      exact hS.2.1 q g1 g2, fun q hq => by
      rcases List.mem_append.mp hq with h | h
      · exact hS.2.2 q h
      · obtain ⟨z, -, hz⟩ := List.mem_map.mp h
        rw [← hz]
        exact Nat.le_add_right _ _⟩ hc hs la hl _ hheap X'
  exact ⟨t, step t a1, b1⟩
end CALL
end
section
/-! ===== the layout: the cells of the two systems behind their constructors; the store of all ints ===== -/
abbrev St : Type := Nat → Nat → Int32
abbrev LT : Type := Nat ⊕ (Nat × List Nat) ⊕ (Nat × List (Option Nat))
def lay : List LT := [.inr (.inr (5, [some 1, some 8, some 15, some 2, some 22, some 24, some 34, some 36, some 45, none])), .inr (.inr (1, [some 2, some 3, some 5, some 6, some 7, none, none])), .inr (.inr (0, [some 3, some 4])), .inl 40, .inl 10, .inl 10, .inl 10, .inl 20, .inr (.inr (1, [some 9, some 10, some 12, some 13, some 14, none, none])), .inr (.inr (0, [some 10, some 11])), .inl 40, .inl 10, .inl 10, .inl 10, .inl 20, .inr (.inr (1, [some 16, some 17, some 19, some 20, some 21, none, none])), .inr (.inr (0, [some 17, some 18])), .inl 40, .inl 10, .inl 10, .inl 10, .inl 20, .inr (.inr (0, [some 3, some 23])), .inl 10, .inr (.inr (2, [some 25, none, none, none, none])), .inr (.inl (0, [26, 28, 30, 32])), .inr (.inr (0, [some 3, some 27])), .inl 10, .inr (.inr (0, [some 3, some 29])), .inl 10, .inr (.inr (0, [some 3, some 31])), .inl 10, .inr (.inr (0, [some 3, some 33])), .inl 10, .inr (.inr (4, [some 35, none, none, none, none, none])), .inl 120, .inr (.inl (1, [37, 39, 41, 43])), .inr (.inr (3, [some 38, none, none])), .inl 40, .inr (.inr (3, [some 40, none, none])), .inl 40, .inr (.inr (3, [some 42, none, none])), .inl 40, .inr (.inr (3, [some 44, none, none])), .inl 40, .inl 7, .inr (.inr (6, [some 47, some 48, some 49, none, some 50, some 51, none, none, none, none, none, some 52, some 53, some 54, some 55, some 56])), .inl 92, .inl 92, .inl 92, .inl 7, .inl 120, .inl 3, .inl 4, .inl 4, .inl 160, .inl 40]
def fv (X : xC) (x : Int32) (o : Option Nat) : Value := match o with
  | some c' => .ref (xB X + c')
  | none => .int x
def cellOf (X : xC) (S : St) (c : Nat) (t : LT) : va_E := match t with
  | .inl n => .inl (xI X, n, .inl (S c))
  | .inr (.inl (q, cs)) => .inl (xR X q, cs.length, .inr (.inr (.inr (.inr (fun i => (cs[i]?).map (fun c' => xB X + c'))))))
  | .inr (.inr (ci, fs)) => .inr (ci, (List.range fs.length).map (fun j => fv X (S c j) (fs[j]?).join))
def mkL (X : xC) (S : St) : Nat → List LT → List va_E
  | _, [] => []
  | c, t :: ts => cellOf X S c t :: mkL X S (c + 1) ts
def mkM (X : xC) (S : St) : List va_E := mkL X S 0 lay
theorem mkL_get {X : xC} {S : St} : ∀ (ts : List LT) (c i : Nat), (mkL X S c ts)[i]? = (ts[i]?).map (cellOf X S (c + i))
  | [], c, i => by simp [mkL]
  | t :: ts, c, 0 => by simp [mkL]
  | t :: ts, c, i + 1 => by
    simp only [mkL, List.getElem?_cons_succ]
    rw [mkL_get ts (c + 1) i, show c + 1 + i = c + (i + 1) by omega]
theorem mkM_get {X : xC} {S : St} (i : Nat) : (mkM X S)[i]? = (lay[i]?).map (cellOf X S i) := by
  unfold mkM
  rw [mkL_get, Nat.zero_add]
theorem mkM_arr {X : xC} {S : St} {c n : Nat} (h : lay[c]? = some (.inl n)) : (mkM X S)[c]? = some (.inl (xI X, n, .inl (S c))) := by rw [mkM_get, h]; rfl
theorem mkM_obj {X : xC} {S : St} {c ci : Nat} {fs : List (Option Nat)} (h : lay[c]? = some (.inr (.inr (ci, fs)))) : (mkM X S)[c]? = some (.inr (ci, (List.range fs.length).map (fun j => fv X (S c j) (fs[j]?).join))) := by rw [mkM_get, h]; rfl
theorem mkM_rar {X : xC} {S : St} {c q : Nat} {cs : List Nat} (h : lay[c]? = some (.inr (.inl (q, cs)))) : (mkM X S)[c]? = some (.inl (xR X q, cs.length, .inr (.inr (.inr (.inr (fun i => (cs[i]?).map (fun c' => xB X + c'))))))) := by rw [mkM_get, h]; rfl
theorem cellOf_up {X : xC} {S : St} {c c2 : Nat} {f : Nat → Int32} {t : LT} (h : c2 ≠ c) : cellOf X (va_up S c f) c2 t = cellOf X S c2 t := by
  unfold cellOf
  simp only [va_up, if_neg h]
theorem mkM_set {X : xC} {S : St} {c : Nat} {f : Nat → Int32} {t : LT} (h : lay[c]? = some t) : (mkM X S).set c (cellOf X (va_up S c f) c t) = mkM X (va_up S c f) := by
  apply List.ext_getElem?
  intro i
  by_cases hi : i = c
  · subst hi
    have hl : i < (mkM X S).length := by
      have h1 : (mkM X S)[i]? = some (cellOf X S i t) := by rw [mkM_get, h]; rfl
      exact (List.getElem?_eq_some_iff.mp h1).1
    rw [List.getElem?_set_self hl, mkM_get, h]
    rfl
  · rw [List.getElem?_set_ne (Ne.symm hi), mkM_get, mkM_get]
    cases hc : lay[i]? with
    | none => rfl
    | some u => simp only [Option.map_some, cellOf_up hi]
/-- one place of the store -/
def put (S : St) (c j : Nat) (x : Int32) : St := va_up S c (upd (S c) j x)
theorem mkM_arr_set {X : xC} {S : St} {c n : Nat} {f : Nat → Int32} (h : lay[c]? = some (.inl n)) : (mkM X S).set c (.inl (xI X, n, .inl f)) = mkM X (va_up S c f) := by
  rw [← mkM_set h]
  simp [cellOf, va_up]
theorem mkM_fld_set {X : xC} {S : St} {c ci j : Nat} {x : Int32} {fs : List (Option Nat)} (h : lay[c]? = some (.inr (.inr (ci, fs)))) (hj : fs[j]? = some none) : (mkM X S).set c (.inr (ci, ((List.range fs.length).map (fun j => fv X (S c j) (fs[j]?).join)).set j (.int x))) = mkM X (put S c j x) := by
  unfold put
  rw [← mkM_set h]
  congr 1
  simp only [cellOf, Sum.inr.injEq, Prod.mk.injEq, true_and]
  apply List.ext_getElem?
  intro i
  have hjl : j < fs.length := (List.getElem?_eq_some_iff.mp hj).1
  by_cases hi : i = j
  · subst hi
    rw [List.getElem?_set_self (by simpa using hjl)]
    rw [List.getElem?_map, List.getElem?_range hjl]
    simp [hj, va_up, upd, fv]
  · rw [List.getElem?_set_ne (Ne.symm hi)]
    by_cases hl : i < fs.length
    · simp [hl, va_up, upd, hi]
    · simp [hl]
def inb (i : Int32) (n : Nat) : Bool := decide (¬ (i < 0 ∨ n ≤ i.toNatClampNeg))
theorem inb_in {i : Int32} {n : Nat} (h : inb i n = true) : vp_in i n := by
  unfold inb at h
  unfold vp_in
  exact of_decide_eq_true h
def eI (q : Int32 × St) : Option Value × St := (some (.int q.1), q.2)
def eV (S : St) : Option Value × St := (none, S)
def eR (q : Nat × St) : Option Value × St := (some (.ref q.1), q.2)
/-- the judgement over the store: where the pure function answers, the method does -/
def SemG {α : Type} (emb : α → Option Value × St) (X : xC) (k : Mth) (d pc : Nat) (ls : List (Option Value)) (st : List Value) (S : St) (f : Option α) : Prop := ∀ a, f = some a → Sem X k d pc ls st (mkM X S) (emb a).1 (mkM X (emb a).2) 0 0
section G
variable {α : Type} {emb : α → Option Value × St} {X : xC} {k : Mth} {d pc pc' tgt : Nat} {ls : List (Option Value)} {st : List Value} {S : St} {f f2 : Option α}
theorem g_none : SemG emb X k d pc ls st S none := fun a h => by cases h
theorem g_guard {b : Bool} (kk : b = true → SemG emb X k d pc ls st S f) : SemG emb X k d pc ls st S (if b = true then f else none) := by
  intro a h
  by_cases hb : b = true
  · rw [if_pos hb] at h; exact kk hb a h
  · rw [if_neg hb] at h; cases h
theorem g_ite {c : Prop} [Decidable c] (h1 : c → SemG emb X k d pc ls st S f) (h2 : ¬ c → SemG emb X k d pc ls st S f2) : SemG emb X k d pc ls st S (if c then f else f2) := by
  intro a h
  by_cases hc : c
  · rw [if_pos hc] at h; exact h1 hc a h
  · rw [if_neg hc] at h; exact h2 hc a h
theorem g_iconst {n : Int} {v : Int32} (hd : dI k.2.1 pc (.iconst n) 1 pc' ∧ Int32.ofInt n = v) (kk : SemG emb X k d pc' ls (.int v :: st) S f) : SemG emb X k d pc ls st S f := fun a ha => ev_iconst hd (kk a ha)
theorem g_bipush {n : Int} {v : Int32} (hd : dI k.2.1 pc (.bipush n) 2 pc' ∧ (Int8.ofInt n).toInt32 = v) (kk : SemG emb X k d pc' ls (.int v :: st) S f) : SemG emb X k d pc ls st S f := fun a ha => ev_bipush hd (kk a ha)
theorem g_sipush {n : Int} {v : Int32} (hd : dI k.2.1 pc (.sipush n) 3 pc' ∧ (Int16.ofInt n).toInt32 = v) (kk : SemG emb X k d pc' ls (.int v :: st) S f) : SemG emb X k d pc ls st S f := fun a ha => ev_sipush hd (kk a ha)
theorem g_ldc {idx : Nat} {v : Int32} (hd : dI k.2.1 pc (.ldc idx) 2 pc') (hw : Cond.constant k.1.cls idx v ∈ TG) (kk : SemG emb X k d pc' ls (.int v :: st) S f) : SemG emb X k d pc ls st S f := fun a ha => ev_ldc hd hw (kk a ha)
theorem g_iload_n {j : Fin 4} {x : Int32} (hd : dI k.2.1 pc (.iload_n j) 1 pc') (h : ls[(j : Nat)]? = some (some (.int x))) (kk : SemG emb X k d pc' ls (.int x :: st) S f) : SemG emb X k d pc ls st S f := fun a ha => ev_iload_n hd h (kk a ha)
theorem g_iload {j : Nat} {x : Int32} (hd : dI k.2.1 pc (.iload j) 2 pc') (h : ls[j]? = some (some (.int x))) (kk : SemG emb X k d pc' ls (.int x :: st) S f) : SemG emb X k d pc ls st S f := fun a ha => ev_iload hd h (kk a ha)
theorem g_aload_n {j : Fin 4} {x : Nat} (hd : dI k.2.1 pc (.aload_n j) 1 pc') (h : ls[(j : Nat)]? = some (some (.ref x))) (kk : SemG emb X k d pc' ls (.ref x :: st) S f) : SemG emb X k d pc ls st S f := fun a ha => ev_aload_n hd h (kk a ha)
theorem g_aload {j : Nat} {x : Nat} (hd : dI k.2.1 pc (.aload j) 2 pc') (h : ls[j]? = some (some (.ref x))) (kk : SemG emb X k d pc' ls (.ref x :: st) S f) : SemG emb X k d pc ls st S f := fun a ha => ev_aload hd h (kk a ha)
theorem g_istore_n {j : Fin 4} {x : Int32} (hd : dI k.2.1 pc (.istore_n j) 1 pc') (hj : (j : Nat) < k.2.2.1) (kk : SemG emb X k d pc' (ls.set (j : Nat) (some (.int x))) st S f) : SemG emb X k d pc ls (.int x :: st) S f := fun a ha => ev_istore_n hd hj (kk a ha)
theorem g_istore {j : Nat} {x : Int32} (hd : dI k.2.1 pc (.istore j) 2 pc') (hj : j < k.2.2.1) (kk : SemG emb X k d pc' (ls.set j (some (.int x))) st S f) : SemG emb X k d pc ls (.int x :: st) S f := fun a ha => ev_istore hd hj (kk a ha)
theorem g_astore_n {j : Fin 4} {x : Nat} (hd : dI k.2.1 pc (.astore_n j) 1 pc') (hj : (j : Nat) < k.2.2.1) (kk : SemG emb X k d pc' (ls.set (j : Nat) (some (.ref x))) st S f) : SemG emb X k d pc ls (.ref x :: st) S f := fun a ha => ev_astore_n hd hj (kk a ha)
theorem g_astore {j : Nat} {x : Nat} (hd : dI k.2.1 pc (.astore j) 2 pc') (hj : j < k.2.2.1) (kk : SemG emb X k d pc' (ls.set j (some (.ref x))) st S f) : SemG emb X k d pc ls (.ref x :: st) S f := fun a ha => ev_astore hd hj (kk a ha)
theorem g_iinc {j : Nat} {n : Int} {x v : Int32} (hd : dI k.2.1 pc (.iinc j n) 3 pc' ∧ Int32.ofInt n = v) (hj : j < k.2.2.1) (h : ls[j]? = some (some (.int x))) (kk : SemG emb X k d pc' (ls.set j (some (.int (x + v)))) st S f) : SemG emb X k d pc ls st S f := fun a ha => ev_iinc hd hj h (kk a ha)
theorem g_iadd {x y : Int32} (hd : dI k.2.1 pc .iadd 1 pc') (kk : SemG emb X k d pc' ls (.int (x + y) :: st) S f) : SemG emb X k d pc ls (.int y :: .int x :: st) S f := fun a ha => ev_iadd hd (kk a ha)
theorem g_isub {x y : Int32} (hd : dI k.2.1 pc .isub 1 pc') (kk : SemG emb X k d pc' ls (.int (x - y) :: st) S f) : SemG emb X k d pc ls (.int y :: .int x :: st) S f := fun a ha => ev_isub hd (kk a ha)
theorem g_imul {x y : Int32} (hd : dI k.2.1 pc .imul 1 pc') (kk : SemG emb X k d pc' ls (.int (x * y) :: st) S f) : SemG emb X k d pc ls (.int y :: .int x :: st) S f := fun a ha => ev_imul hd (kk a ha)
theorem g_iand {x y : Int32} (hd : dI k.2.1 pc .iand 1 pc') (kk : SemG emb X k d pc' ls (.int (x &&& y) :: st) S f) : SemG emb X k d pc ls (.int y :: .int x :: st) S f := fun a ha => ev_iand hd (kk a ha)
theorem g_ishl {x y : Int32} (hd : dI k.2.1 pc .ishl 1 pc') (kk : SemG emb X k d pc' ls (.int (x <<< (y &&& 31)) :: st) S f) : SemG emb X k d pc ls (.int y :: .int x :: st) S f := fun a ha => ev_ishl hd (kk a ha)
theorem g_ishr {x y : Int32} (hd : dI k.2.1 pc .ishr 1 pc') (kk : SemG emb X k d pc' ls (.int (x >>> (y &&& 31)) :: st) S f) : SemG emb X k d pc ls (.int y :: .int x :: st) S f := fun a ha => ev_ishr hd (kk a ha)
theorem g_idiv {x y : Int32} (hd : dI k.2.1 pc .idiv 1 pc') (hy : ¬ y = 0) (kk : SemG emb X k d pc' ls (.int (x / y) :: st) S f) : SemG emb X k d pc ls (.int y :: .int x :: st) S f := fun a ha => ev_idiv hd hy (kk a ha)
theorem g_irem {x y : Int32} (hd : dI k.2.1 pc .irem 1 pc') (hy : ¬ y = 0) (kk : SemG emb X k d pc' ls (.int (x - x / y * y) :: st) S f) : SemG emb X k d pc ls (.int y :: .int x :: st) S f := fun a ha => ev_irem hd hy (kk a ha)
theorem g_iushr {x y : Int32} (hd : dI k.2.1 pc .iushr 1 pc') (kk : SemG emb X k d pc' ls (.int ((x.toUInt32 >>> (y.toUInt32 &&& Int32.toUInt32 31)).toInt32) :: st) S f) : SemG emb X k d pc ls (.int y :: .int x :: st) S f := fun a ha => ev_iushr hd (kk a ha)
theorem g_i2b {x : Int32} (hd : dI k.2.1 pc .i2b 1 pc') (kk : SemG emb X k d pc' ls (.int (x.toInt8.toInt32) :: st) S f) : SemG emb X k d pc ls (.int x :: st) S f := fun a ha => ev_i2b hd (kk a ha)
theorem g_i2s {x : Int32} (hd : dI k.2.1 pc .i2s 1 pc') (kk : SemG emb X k d pc' ls (.int (x.toInt16.toInt32) :: st) S f) : SemG emb X k d pc ls (.int x :: st) S f := fun a ha => ev_i2s hd (kk a ha)
theorem g_i2c {x : Int32} (hd : dI k.2.1 pc .i2c 1 pc') (kk : SemG emb X k d pc' ls (.int ((x.toUInt32 % 65536).toInt32) :: st) S f) : SemG emb X k d pc ls (.int x :: st) S f := fun a ha => ev_i2c hd (kk a ha)
theorem g_dup {a : Value} (hd : dI k.2.1 pc .dup 1 pc') (h1 : a.category = 1) (kk : SemG emb X k d pc' ls (a :: a :: st) S f) : SemG emb X k d pc ls (a :: st) S f := fun a ha => ev_dup hd h1 (kk a ha)
theorem g_dup_x1 {a b : Value} (hd : dI k.2.1 pc .dup_x1 1 pc') (h1 : a.category = 1) (h2 : b.category = 1) (kk : SemG emb X k d pc' ls (a :: b :: a :: st) S f) : SemG emb X k d pc ls (a :: b :: st) S f := fun a ha => ev_dup_x1 hd h1 h2 (kk a ha)
theorem g_dup2 {a b : Value} (hd : dI k.2.1 pc .dup2 1 pc') (h1 : a.category = 1) (h2 : b.category = 1) (kk : SemG emb X k d pc' ls (a :: b :: a :: b :: st) S f) : SemG emb X k d pc ls (a :: b :: st) S f := fun a ha => ev_dup2 hd h1 h2 (kk a ha)
theorem g_pop {a : Value} (hd : dI k.2.1 pc .pop 1 pc') (h1 : a.category = 1) (kk : SemG emb X k d pc' ls (st) S f) : SemG emb X k d pc ls (a :: st) S f := fun a ha => ev_pop hd h1 (kk a ha)
theorem g_goto {off : Int} (hd : dJ k.2.1 pc (.goto off) off pc' tgt) (kk : SemG emb X k d tgt ls st S f) : SemG emb X k d pc ls st S f := fun a ha => ev_goto hd (kk a ha)
theorem g_table_in {dflt lo hi : Int} {offs : Array Int} {len : Nat} {x : Int32} {off : Int} (hd : decode k.2.1 pc = .ok (.tableswitch dflt lo hi offs, len)) (h1 : ¬ x.toInt < lo) (h2 : ¬ hi < x.toInt) (ho : offs[(x.toInt - lo).toNat]? = some off) (ht : (pc : Int) + off = (tgt : Int)) (kk : SemG emb X k d tgt ls st S f) : SemG emb X k d pc ls (.int x :: st) S f := fun a ha => ev_table_in hd h1 h2 ho ht (kk a ha)
theorem g_table_out {dflt lo hi : Int} {offs : Array Int} {len : Nat} {x : Int32} (hd : decode k.2.1 pc = .ok (.tableswitch dflt lo hi offs, len)) (h : x.toInt < lo ∨ hi < x.toInt) (ht : (pc : Int) + dflt = (tgt : Int)) (kk : SemG emb X k d tgt ls st S f) : SemG emb X k d pc ls (.int x :: st) S f := fun a ha => ev_table_out hd h ht (kk a ha)
theorem g_lookup {dflt : Int} {ps : Array (Int × Int)} {len : Nat} {x : Int32} {off : Int} (hd : decode k.2.1 pc = .ok (.lookupswitch dflt ps, len)) (hp : (ps.toList.zip (ps.toList.drop 1)).all (fun (a, next) => a.1 < next.1) = true) (ho : Op.lookupswitch.offset ps.toList dflt x.toInt = off) (ht : (pc : Int) + off = (tgt : Int)) (kk : SemG emb X k d tgt ls st S f) : SemG emb X k d pc ls (.int x :: st) S f := fun a ha => ev_lookup hd hp ho ht (kk a ha)
theorem g_icmp_eq {x y : Int32} {off : Int} (hd : dJ k.2.1 pc (.if_icmp .eq off) off pc' tgt) (kt : x = y → SemG emb X k d tgt ls st S f) (kf : ¬ x = y → SemG emb X k d pc' ls st S f) : SemG emb X k d pc ls (.int y :: .int x :: st) S f := fun a ha => ev_icmp_eq hd (fun h => kt h a ha) (fun h => kf h a ha)
theorem g_if_eq {x : Int32} {off : Int} (hd : dJ k.2.1 pc (.ifCond .eq off) off pc' tgt) (kt : x = 0 → SemG emb X k d tgt ls st S f) (kf : ¬ x = 0 → SemG emb X k d pc' ls st S f) : SemG emb X k d pc ls (.int x :: st) S f := fun a ha => ev_if_eq hd (fun h => kt h a ha) (fun h => kf h a ha)
theorem g_icmp_ne {x y : Int32} {off : Int} (hd : dJ k.2.1 pc (.if_icmp .ne off) off pc' tgt) (kt : ¬ x = y → SemG emb X k d tgt ls st S f) (kf : x = y → SemG emb X k d pc' ls st S f) : SemG emb X k d pc ls (.int y :: .int x :: st) S f := fun a ha => ev_icmp_ne hd (fun h => kt h a ha) (fun h => kf h a ha)
theorem g_if_ne {x : Int32} {off : Int} (hd : dJ k.2.1 pc (.ifCond .ne off) off pc' tgt) (kt : ¬ x = 0 → SemG emb X k d tgt ls st S f) (kf : x = 0 → SemG emb X k d pc' ls st S f) : SemG emb X k d pc ls (.int x :: st) S f := fun a ha => ev_if_ne hd (fun h => kt h a ha) (fun h => kf h a ha)
theorem g_icmp_lt {x y : Int32} {off : Int} (hd : dJ k.2.1 pc (.if_icmp .lt off) off pc' tgt) (kt : x < y → SemG emb X k d tgt ls st S f) (kf : ¬ x < y → SemG emb X k d pc' ls st S f) : SemG emb X k d pc ls (.int y :: .int x :: st) S f := fun a ha => ev_icmp_lt hd (fun h => kt h a ha) (fun h => kf h a ha)
theorem g_if_lt {x : Int32} {off : Int} (hd : dJ k.2.1 pc (.ifCond .lt off) off pc' tgt) (kt : x < 0 → SemG emb X k d tgt ls st S f) (kf : ¬ x < 0 → SemG emb X k d pc' ls st S f) : SemG emb X k d pc ls (.int x :: st) S f := fun a ha => ev_if_lt hd (fun h => kt h a ha) (fun h => kf h a ha)
theorem g_icmp_ge {x y : Int32} {off : Int} (hd : dJ k.2.1 pc (.if_icmp .ge off) off pc' tgt) (kt : y ≤ x → SemG emb X k d tgt ls st S f) (kf : ¬ y ≤ x → SemG emb X k d pc' ls st S f) : SemG emb X k d pc ls (.int y :: .int x :: st) S f := fun a ha => ev_icmp_ge hd (fun h => kt h a ha) (fun h => kf h a ha)
theorem g_if_ge {x : Int32} {off : Int} (hd : dJ k.2.1 pc (.ifCond .ge off) off pc' tgt) (kt : 0 ≤ x → SemG emb X k d tgt ls st S f) (kf : ¬ 0 ≤ x → SemG emb X k d pc' ls st S f) : SemG emb X k d pc ls (.int x :: st) S f := fun a ha => ev_if_ge hd (fun h => kt h a ha) (fun h => kf h a ha)
theorem g_icmp_gt {x y : Int32} {off : Int} (hd : dJ k.2.1 pc (.if_icmp .gt off) off pc' tgt) (kt : y < x → SemG emb X k d tgt ls st S f) (kf : ¬ y < x → SemG emb X k d pc' ls st S f) : SemG emb X k d pc ls (.int y :: .int x :: st) S f := fun a ha => ev_icmp_gt hd (fun h => kt h a ha) (fun h => kf h a ha)
theorem g_if_gt {x : Int32} {off : Int} (hd : dJ k.2.1 pc (.ifCond .gt off) off pc' tgt) (kt : 0 < x → SemG emb X k d tgt ls st S f) (kf : ¬ 0 < x → SemG emb X k d pc' ls st S f) : SemG emb X k d pc ls (.int x :: st) S f := fun a ha => ev_if_gt hd (fun h => kt h a ha) (fun h => kf h a ha)
theorem g_icmp_le {x y : Int32} {off : Int} (hd : dJ k.2.1 pc (.if_icmp .le off) off pc' tgt) (kt : x ≤ y → SemG emb X k d tgt ls st S f) (kf : ¬ x ≤ y → SemG emb X k d pc' ls st S f) : SemG emb X k d pc ls (.int y :: .int x :: st) S f := fun a ha => ev_icmp_le hd (fun h => kt h a ha) (fun h => kf h a ha)
theorem g_if_le {x : Int32} {off : Int} (hd : dJ k.2.1 pc (.ifCond .le off) off pc' tgt) (kt : x ≤ 0 → SemG emb X k d tgt ls st S f) (kf : ¬ x ≤ 0 → SemG emb X k d pc' ls st S f) : SemG emb X k d pc ls (.int x :: st) S f := fun a ha => ev_if_le hd (fun h => kt h a ha) (fun h => kf h a ha)
theorem g_ireturn {f : Option (Int32 × St)} {v : Int32} {ty : FieldType} (hd : decode k.2.1 pc = .ok (.ireturn, 1)) (ht : k.2.2.2 = some ty) (hn : narrow ty (.int v) = .int v) (hf : f = some (v, S)) : SemG eI X k d pc ls [.int v] S f := by
  subst hf
  intro a h
  cases h
  exact ev_ireturn hd ht hn
theorem g_return {f : Option St} (hd : decode k.2.1 pc = .ok (.return_, 1)) (ht : k.2.2.2 = none) (hf : f = some S) : SemG eV X k d pc ls [] S f := by
  subst hf
  intro a h
  cases h
  exact ev_return hd ht
theorem g_areturn {f : Option (Nat × St)} {v : Nat} {nm : String} (hd : decode k.2.1 pc = .ok (.areturn, 1)) (ht : k.2.2.2 = some (.object nm)) (hf : f = some (v, S)) : SemG eR X k d pc ls [.ref v] S f := by
  subst hf
  intro a h
  cases h
  exact ev_areturn hd ht
theorem g_getR {idx c ci j c' : Nat} {fs : List (Option Nat)} (hd : dI k.2.1 pc (.getfield idx) 3 pc') (hf : FLk k.1.cls idx ci j) (hc : lay[c]? = some (.inr (.inr (ci, fs)))) (hj : fs[j]? = some (some c')) (kk : SemG emb X k d pc' ls (.ref (xB X + c') :: st) S f) : SemG emb X k d pc ls (.ref (xB X + c) :: st) S f := by
  intro a ha
  have hjl : j < fs.length := (List.getElem?_eq_some_iff.mp hj).1
  refine ev_get hd hf (mkM_obj hc) (v := .ref (xB X + c')) ?_ (kk a ha)
  rw [List.getElem?_map, List.getElem?_range hjl]
  simp only [Option.map_some, hj, Option.join_some, fv]
theorem g_getI {idx c ci j : Nat} {fs : List (Option Nat)} (hd : dI k.2.1 pc (.getfield idx) 3 pc') (hf : FLk k.1.cls idx ci j) (hc : lay[c]? = some (.inr (.inr (ci, fs)))) (hj : fs[j]? = some none) (kk : SemG emb X k d pc' ls (.int (S c j) :: st) S f) : SemG emb X k d pc ls (.ref (xB X + c) :: st) S f := by
  intro a ha
  have hjl : j < fs.length := (List.getElem?_eq_some_iff.mp hj).1
  refine ev_get hd hf (mkM_obj hc) (v := .int (S c j)) ?_ (kk a ha)
  rw [List.getElem?_map, List.getElem?_range hjl]
  simp only [Option.map_some, hj, Option.join_some, fv]
theorem g_putI {idx c ci j : Nat} {x : Int32} {fs : List (Option Nat)} (hd : dI k.2.1 pc (.putfield idx) 3 pc') (hf : FLk k.1.cls idx ci j) (hfin : FinK ci j false) (hc : lay[c]? = some (.inr (.inr (ci, fs)))) (hj : fs[j]? = some none) (hn : narrow (clsT ci j) (.int x) = .int x) (hfit : fits (clsT ci j) (.int x) = true) (kk : SemG emb X k d pc' ls st (put S c j x) f) : SemG emb X k d pc ls (.int x :: .ref (xB X + c) :: st) S f := by
  intro a ha
  have hjl : j < fs.length := (List.getElem?_eq_some_iff.mp hj).1
  refine ev_put hd hf hfin (mkM_obj hc) hn hfit (by simpa using hjl) ?_
  rw [mkM_fld_set hc hj]
  exact kk a ha
theorem g_ild {c n j : Nat} {i : Int32} (hd : dI k.2.1 pc .iaload 1 pc') (hc : lay[c]? = some (.inl n)) (hi : inb i n = true) (hj : i.toNatClampNeg = j) (kk : SemG emb X k d pc' ls (.int (S c j) :: st) S f) : SemG emb X k d pc ls (.int i :: .ref (xB X + c) :: st) S f := by
  subst hj
  exact fun a ha => ev_iald hd (mkM_arr hc) (inb_in hi) (kk a ha)
theorem g_ist {c n j : Nat} {i x : Int32} (hd : dI k.2.1 pc .iastore 1 pc') (hc : lay[c]? = some (.inl n)) (hi : inb i n = true) (hj : i.toNatClampNeg = j) (kk : SemG emb X k d pc' ls st (put S c j x) f) : SemG emb X k d pc ls (.int x :: .int i :: .ref (xB X + c) :: st) S f := by
  subst hj
  intro a ha
  refine ev_iast hd (mkM_arr hc) (inb_in hi) ?_
  rw [mkM_arr_set hc]
  exact kk a ha
theorem g_ald {c q t c' : Nat} {Cn : String} {cs : List Nat} {i : Int32} (hd : dI k.2.1 pc .aaload 1 pc') (hc : lay[c]? = some (.inr (.inl (q, cs)))) (ht : (xTys X)[t]? = some (xR X q, .object Cn)) (hi : inb i cs.length = true) (hj : cs[i.toNatClampNeg]? = some c') (kk : SemG emb X k d pc' ls (.ref (xB X + c') :: st) S f) : SemG emb X k d pc ls (.int i :: .ref (xB X + c) :: st) S f := by
  intro a ha
  exact ev_aald hd (mkM_rar hc) ht (inb_in hi) (by rw [hj]; rfl) (kk a ha)
theorem g_alen {c n : Nat} {v : Int32} (hd : dI k.2.1 pc .arraylength 1 pc') (hc : lay[c]? = some (.inl n)) (hv : Int32.ofNat n = v) (kk : SemG emb X k d pc' ls (.int v :: st) S f) : SemG emb X k d pc ls (.ref (xB X + c) :: st) S f :=
  fun a ha => ev_alen hd (mkM_arr hc) hv (kk a ha)
theorem g_mmax {idx : Nat} {x y : Int32} (hd : dI k.2.1 pc (.invokestatic idx) 3 pc') (hw : Cond.methodLink k.1.cls idx Lib.Math.max.name ∈ TG) (hst : (st.map fun v => v.category).sum ≤ 8) (kk : SemG emb X k (d + 1) pc' ls (.int (if x < y then y else x) :: st) S f) : SemG emb X k (d + 1) pc ls (.int y :: .int x :: st) S f := fun a ha => ev_mmax hd hw hst (kk a ha)
theorem g_mmin {idx : Nat} {x y : Int32} (hd : dI k.2.1 pc (.invokestatic idx) 3 pc') (hw : Cond.methodLink k.1.cls idx Lib.Math.min.name ∈ TG) (hst : (st.map fun v => v.category).sum ≤ 8) (kk : SemG emb X k (d + 1) pc' ls (.int (if y < x then y else x) :: st) S f) : SemG emb X k (d + 1) pc ls (.int y :: .int x :: st) S f := fun a ha => ev_mmin hd hw hst (kk a ha)
/-- may so many be copied from one place on to another -/
def cpok (sp dp n : Int32) (n0 n1 : Nat) : Bool := decide (¬ sp < 0) && decide (¬ dp < 0) && decide (¬ n < 0) && decide (sp.toNatClampNeg + n.toNatClampNeg ≤ n0) && decide (dp.toNatClampNeg + n.toNatClampNeg ≤ n1)
def cpy (S : St) (c0 c1 : Nat) (sp dp n : Int32) : St := va_up S c1 (va_cpy (S c0) (S c1) sp.toNatClampNeg dp.toNatClampNeg n.toNatClampNeg)
theorem g_copy {idx c0 c1 n0 n1 : Nat} {sp dp n : Int32} (hd : dI k.2.1 pc (.invokestatic idx) 3 pc') (hw : Cond.methodLink k.1.cls idx arraycopyName ∈ TG) (hst : (st.map fun v => v.category).sum ≤ 8) (hc0 : lay[c0]? = some (.inl n0)) (hc1 : lay[c1]? = some (.inl n1)) (hok : cpok sp dp n n0 n1 = true) (kk : SemG emb X k (d + 1) pc' ls st (cpy S c0 c1 sp dp n) f) : SemG emb X k (d + 1) pc ls (.int n :: .int dp :: .ref (xB X + c1) :: .int sp :: .ref (xB X + c0) :: st) S f := by
  intro a ha
  simp only [cpok, Bool.and_eq_true, decide_eq_true_eq] at hok
  obtain ⟨⟨⟨⟨h1, h2⟩, h3⟩, h4⟩, h5⟩ := hok
  refine ev_copy hd hw hst (mkM_arr hc0) (mkM_arr hc1) h1 h2 h3 h4 h5 ?_
  rw [mkM_arr_set hc1]
  exact kk a ha
def lsub : List (Option Value) → List (Option Value) → Prop
  | [], _ => True
  | none :: a, _ :: b => lsub a b
  | none :: a, [] => lsub a []
  | some _ :: _, [] => False
  | some v :: a, w :: b => some v = w ∧ lsub a b
theorem lsub_get : ∀ (a b : List (Option Value)), lsub a b → ∀ (i : Nat) (v : Value), a[i]? = some (some v) → b[i]? = some (some v)
  | [], b, _, i, v, hi => by simp at hi
  | none :: a, w :: b, h, 0, v, hi => by simp at hi
  | none :: a, w :: b, h, i + 1, v, hi => by
    rw [List.getElem?_cons_succ] at hi ⊢
    exact lsub_get a b h i v hi
  | none :: a, [], h, 0, v, hi => by simp at hi
  | none :: a, [], h, i + 1, v, hi => by
    rw [List.getElem?_cons_succ] at hi
    have := lsub_get a [] h i v hi
    simp at this
  | some u :: a, w :: b, h, 0, v, hi => by
    rw [List.getElem?_cons_zero] at hi ⊢
    rw [← h.1]; exact hi
  | some u :: a, w :: b, h, i + 1, v, hi => by
    rw [List.getElem?_cons_succ] at hi ⊢
    exact lsub_get a b h.2 i v hi
theorem g_less {ls2 : List (Option Value)} (h : lsub ls2 ls) (kk : SemG emb X k d pc ls2 st S f) : SemG emb X k d pc ls st S f := by
  intro a ha p l e R s m args below meth c C H locs cells slots hW hS hc hs la hl
  exact kk a ha p l e R s m args below meth c C H locs cells slots hW hS hc hs la ⟨hl.1, fun i v hi => hl.2 i v (lsub_get _ _ h i v hi)⟩
def VcK (ci : Nat) (k2 : Mth) : Prop := ∃ q : vw_C, cls[ci]? = some q ∧ q.1 = k2.1.cls
theorem g_callV0I {k2 : Mth} {idx c ci : Nat} {fs : List (Option Nat)} {g : Option (Int32 × St)} {ff : (Int32 × St) → Option α} (hd : dI k.2.1 pc (.invokevirtual idx) 3 pc') (hw : Cond.methodLink k.1.cls idx k2.1 ∈ TG) (hk : VirK k2 0) (hc : lay[c]? = some (.inr (.inr (ci, fs)))) (hv : VcK ci k2)  (hst : (st.map fun v => v.category).sum ≤ 8) (h : SemG eI X k2 d 0 (ini k2 (.ref (xB X + c) :: [])) [] S g) (kk : ∀ q, SemG emb X k (d + 1) pc' ls (.int q.1 :: st) q.2 (ff q)) : SemG emb X k (d + 1) pc ls (.ref (xB X + c) :: st) S (g.bind ff) := by
  intro a ha
  obtain ⟨q, hq, ha⟩ := Option.bind_eq_some_iff.mp ha
  obtain ⟨qc, h1, h2⟩ := hv
  exact ev_callV (As := []) hd hw hk (mkM_obj hc) h1 h2 (fun v hv => by cases hv) hst (h q hq) (kk q a ha)
theorem g_callS0I {k2 : Mth} {idx : Nat} {g : Option (Int32 × St)} {ff : (Int32 × St) → Option α} (hd : dI k.2.1 pc (.invokestatic idx) 3 pc') (hw : Cond.methodLink k.1.cls idx k2.1 ∈ TG) (hk : StaK k2 0)  (hst : (st.map fun v => v.category).sum ≤ 8) (h : SemG eI X k2 d 0 (ini k2 []) [] S g) (kk : ∀ q, SemG emb X k (d + 1) pc' ls (.int q.1 :: st) q.2 (ff q)) : SemG emb X k (d + 1) pc ls (st) S (g.bind ff) := by
  intro a ha
  obtain ⟨q, hq, ha⟩ := Option.bind_eq_some_iff.mp ha
  exact ev_callS (As := []) hd hw hk (fun v hv => by cases hv) hst (h q hq) (kk q a ha)
theorem g_callN0I {k2 : Mth} {idx : Nat} {g : Option (Int32 × St)} {ff : (Int32 × St) → Option α} (hd : dI k.2.1 pc (.invokestatic idx) 3 pc') {host : String} (hw : (k.1.cls, idx, k2.1, host) ∈ nests) (hk : StaK k2 0)  (hst : (st.map fun v => v.category).sum ≤ 8) (h : SemG eI X k2 d 0 (ini k2 []) [] S g) (kk : ∀ q, SemG emb X k (d + 1) pc' ls (.int q.1 :: st) q.2 (ff q)) : SemG emb X k (d + 1) pc ls (st) S (g.bind ff) := by
  intro a ha
  obtain ⟨q, hq, ha⟩ := Option.bind_eq_some_iff.mp ha
  exact ev_callSN (As := []) hd hw hk (fun v hv => by cases hv) hst (h q hq) (kk q a ha)
theorem g_callV0V {k2 : Mth} {idx c ci : Nat} {fs : List (Option Nat)} {g : Option (St)} {ff : St → Option α} (hd : dI k.2.1 pc (.invokevirtual idx) 3 pc') (hw : Cond.methodLink k.1.cls idx k2.1 ∈ TG) (hk : VirK k2 0) (hc : lay[c]? = some (.inr (.inr (ci, fs)))) (hv : VcK ci k2)  (hst : (st.map fun v => v.category).sum ≤ 8) (h : SemG eV X k2 d 0 (ini k2 (.ref (xB X + c) :: [])) [] S g) (kk : ∀ q, SemG emb X k (d + 1) pc' ls (st) q (ff q)) : SemG emb X k (d + 1) pc ls (.ref (xB X + c) :: st) S (g.bind ff) := by
  intro a ha
  obtain ⟨q, hq, ha⟩ := Option.bind_eq_some_iff.mp ha
  obtain ⟨qc, h1, h2⟩ := hv
  exact ev_callV (As := []) hd hw hk (mkM_obj hc) h1 h2 (fun v hv => by cases hv) hst (h q hq) (kk q a ha)
theorem g_callS0V {k2 : Mth} {idx : Nat} {g : Option (St)} {ff : St → Option α} (hd : dI k.2.1 pc (.invokestatic idx) 3 pc') (hw : Cond.methodLink k.1.cls idx k2.1 ∈ TG) (hk : StaK k2 0)  (hst : (st.map fun v => v.category).sum ≤ 8) (h : SemG eV X k2 d 0 (ini k2 []) [] S g) (kk : ∀ q, SemG emb X k (d + 1) pc' ls (st) q (ff q)) : SemG emb X k (d + 1) pc ls (st) S (g.bind ff) := by
  intro a ha
  obtain ⟨q, hq, ha⟩ := Option.bind_eq_some_iff.mp ha
  exact ev_callS (As := []) hd hw hk (fun v hv => by cases hv) hst (h q hq) (kk q a ha)
theorem g_callN0V {k2 : Mth} {idx : Nat} {g : Option (St)} {ff : St → Option α} (hd : dI k.2.1 pc (.invokestatic idx) 3 pc') {host : String} (hw : (k.1.cls, idx, k2.1, host) ∈ nests) (hk : StaK k2 0)  (hst : (st.map fun v => v.category).sum ≤ 8) (h : SemG eV X k2 d 0 (ini k2 []) [] S g) (kk : ∀ q, SemG emb X k (d + 1) pc' ls (st) q (ff q)) : SemG emb X k (d + 1) pc ls (st) S (g.bind ff) := by
  intro a ha
  obtain ⟨q, hq, ha⟩ := Option.bind_eq_some_iff.mp ha
  exact ev_callSN (As := []) hd hw hk (fun v hv => by cases hv) hst (h q hq) (kk q a ha)
theorem g_callV1I {a1 : Value} {k2 : Mth} {idx c ci : Nat} {fs : List (Option Nat)} {g : Option (Int32 × St)} {ff : (Int32 × St) → Option α} (hd : dI k.2.1 pc (.invokevirtual idx) 3 pc') (hw : Cond.methodLink k.1.cls idx k2.1 ∈ TG) (hk : VirK k2 1) (hc : lay[c]? = some (.inr (.inr (ci, fs)))) (hv : VcK ci k2) (e1 : a1.category = 1) (hst : (st.map fun v => v.category).sum ≤ 8) (h : SemG eI X k2 d 0 (ini k2 (.ref (xB X + c) :: [a1])) [] S g) (kk : ∀ q, SemG emb X k (d + 1) pc' ls (.int q.1 :: st) q.2 (ff q)) : SemG emb X k (d + 1) pc ls (a1 :: .ref (xB X + c) :: st) S (g.bind ff) := by
  intro a ha
  obtain ⟨q, hq, ha⟩ := Option.bind_eq_some_iff.mp ha
  obtain ⟨qc, h1, h2⟩ := hv
  exact ev_callV (As := [a1]) hd hw hk (mkM_obj hc) h1 h2 (cat_cons e1 (fun v hv => by cases hv)) hst (h q hq) (kk q a ha)
theorem g_callS1I {a1 : Value} {k2 : Mth} {idx : Nat} {g : Option (Int32 × St)} {ff : (Int32 × St) → Option α} (hd : dI k.2.1 pc (.invokestatic idx) 3 pc') (hw : Cond.methodLink k.1.cls idx k2.1 ∈ TG) (hk : StaK k2 1) (e1 : a1.category = 1) (hst : (st.map fun v => v.category).sum ≤ 8) (h : SemG eI X k2 d 0 (ini k2 [a1]) [] S g) (kk : ∀ q, SemG emb X k (d + 1) pc' ls (.int q.1 :: st) q.2 (ff q)) : SemG emb X k (d + 1) pc ls (a1 :: st) S (g.bind ff) := by
  intro a ha
  obtain ⟨q, hq, ha⟩ := Option.bind_eq_some_iff.mp ha
  exact ev_callS (As := [a1]) hd hw hk (cat_cons e1 (fun v hv => by cases hv)) hst (h q hq) (kk q a ha)
theorem g_callN1I {a1 : Value} {k2 : Mth} {idx : Nat} {g : Option (Int32 × St)} {ff : (Int32 × St) → Option α} (hd : dI k.2.1 pc (.invokestatic idx) 3 pc') {host : String} (hw : (k.1.cls, idx, k2.1, host) ∈ nests) (hk : StaK k2 1) (e1 : a1.category = 1) (hst : (st.map fun v => v.category).sum ≤ 8) (h : SemG eI X k2 d 0 (ini k2 [a1]) [] S g) (kk : ∀ q, SemG emb X k (d + 1) pc' ls (.int q.1 :: st) q.2 (ff q)) : SemG emb X k (d + 1) pc ls (a1 :: st) S (g.bind ff) := by
  intro a ha
  obtain ⟨q, hq, ha⟩ := Option.bind_eq_some_iff.mp ha
  exact ev_callSN (As := [a1]) hd hw hk (cat_cons e1 (fun v hv => by cases hv)) hst (h q hq) (kk q a ha)
theorem g_callV1V {a1 : Value} {k2 : Mth} {idx c ci : Nat} {fs : List (Option Nat)} {g : Option (St)} {ff : St → Option α} (hd : dI k.2.1 pc (.invokevirtual idx) 3 pc') (hw : Cond.methodLink k.1.cls idx k2.1 ∈ TG) (hk : VirK k2 1) (hc : lay[c]? = some (.inr (.inr (ci, fs)))) (hv : VcK ci k2) (e1 : a1.category = 1) (hst : (st.map fun v => v.category).sum ≤ 8) (h : SemG eV X k2 d 0 (ini k2 (.ref (xB X + c) :: [a1])) [] S g) (kk : ∀ q, SemG emb X k (d + 1) pc' ls (st) q (ff q)) : SemG emb X k (d + 1) pc ls (a1 :: .ref (xB X + c) :: st) S (g.bind ff) := by
  intro a ha
  obtain ⟨q, hq, ha⟩ := Option.bind_eq_some_iff.mp ha
  obtain ⟨qc, h1, h2⟩ := hv
  exact ev_callV (As := [a1]) hd hw hk (mkM_obj hc) h1 h2 (cat_cons e1 (fun v hv => by cases hv)) hst (h q hq) (kk q a ha)
theorem g_callS1V {a1 : Value} {k2 : Mth} {idx : Nat} {g : Option (St)} {ff : St → Option α} (hd : dI k.2.1 pc (.invokestatic idx) 3 pc') (hw : Cond.methodLink k.1.cls idx k2.1 ∈ TG) (hk : StaK k2 1) (e1 : a1.category = 1) (hst : (st.map fun v => v.category).sum ≤ 8) (h : SemG eV X k2 d 0 (ini k2 [a1]) [] S g) (kk : ∀ q, SemG emb X k (d + 1) pc' ls (st) q (ff q)) : SemG emb X k (d + 1) pc ls (a1 :: st) S (g.bind ff) := by
  intro a ha
  obtain ⟨q, hq, ha⟩ := Option.bind_eq_some_iff.mp ha
  exact ev_callS (As := [a1]) hd hw hk (cat_cons e1 (fun v hv => by cases hv)) hst (h q hq) (kk q a ha)
theorem g_callN1V {a1 : Value} {k2 : Mth} {idx : Nat} {g : Option (St)} {ff : St → Option α} (hd : dI k.2.1 pc (.invokestatic idx) 3 pc') {host : String} (hw : (k.1.cls, idx, k2.1, host) ∈ nests) (hk : StaK k2 1) (e1 : a1.category = 1) (hst : (st.map fun v => v.category).sum ≤ 8) (h : SemG eV X k2 d 0 (ini k2 [a1]) [] S g) (kk : ∀ q, SemG emb X k (d + 1) pc' ls (st) q (ff q)) : SemG emb X k (d + 1) pc ls (a1 :: st) S (g.bind ff) := by
  intro a ha
  obtain ⟨q, hq, ha⟩ := Option.bind_eq_some_iff.mp ha
  exact ev_callSN (As := [a1]) hd hw hk (cat_cons e1 (fun v hv => by cases hv)) hst (h q hq) (kk q a ha)
theorem g_callV1R {a1 : Value} {k2 : Mth} {idx c ci : Nat} {fs : List (Option Nat)} {g : Option (Nat × St)} {ff : (Nat × St) → Option α} (hd : dI k.2.1 pc (.invokevirtual idx) 3 pc') (hw : Cond.methodLink k.1.cls idx k2.1 ∈ TG) (hk : VirK k2 1) (hc : lay[c]? = some (.inr (.inr (ci, fs)))) (hv : VcK ci k2) (e1 : a1.category = 1) (hst : (st.map fun v => v.category).sum ≤ 8) (h : SemG eR X k2 d 0 (ini k2 (.ref (xB X + c) :: [a1])) [] S g) (kk : ∀ q, SemG emb X k (d + 1) pc' ls (.ref q.1 :: st) q.2 (ff q)) : SemG emb X k (d + 1) pc ls (a1 :: .ref (xB X + c) :: st) S (g.bind ff) := by
  intro a ha
  obtain ⟨q, hq, ha⟩ := Option.bind_eq_some_iff.mp ha
  obtain ⟨qc, h1, h2⟩ := hv
  exact ev_callV (As := [a1]) hd hw hk (mkM_obj hc) h1 h2 (cat_cons e1 (fun v hv => by cases hv)) hst (h q hq) (kk q a ha)
theorem g_callS1R {a1 : Value} {k2 : Mth} {idx : Nat} {g : Option (Nat × St)} {ff : (Nat × St) → Option α} (hd : dI k.2.1 pc (.invokestatic idx) 3 pc') (hw : Cond.methodLink k.1.cls idx k2.1 ∈ TG) (hk : StaK k2 1) (e1 : a1.category = 1) (hst : (st.map fun v => v.category).sum ≤ 8) (h : SemG eR X k2 d 0 (ini k2 [a1]) [] S g) (kk : ∀ q, SemG emb X k (d + 1) pc' ls (.ref q.1 :: st) q.2 (ff q)) : SemG emb X k (d + 1) pc ls (a1 :: st) S (g.bind ff) := by
  intro a ha
  obtain ⟨q, hq, ha⟩ := Option.bind_eq_some_iff.mp ha
  exact ev_callS (As := [a1]) hd hw hk (cat_cons e1 (fun v hv => by cases hv)) hst (h q hq) (kk q a ha)
theorem g_callN1R {a1 : Value} {k2 : Mth} {idx : Nat} {g : Option (Nat × St)} {ff : (Nat × St) → Option α} (hd : dI k.2.1 pc (.invokestatic idx) 3 pc') {host : String} (hw : (k.1.cls, idx, k2.1, host) ∈ nests) (hk : StaK k2 1) (e1 : a1.category = 1) (hst : (st.map fun v => v.category).sum ≤ 8) (h : SemG eR X k2 d 0 (ini k2 [a1]) [] S g) (kk : ∀ q, SemG emb X k (d + 1) pc' ls (.ref q.1 :: st) q.2 (ff q)) : SemG emb X k (d + 1) pc ls (a1 :: st) S (g.bind ff) := by
  intro a ha
  obtain ⟨q, hq, ha⟩ := Option.bind_eq_some_iff.mp ha
  exact ev_callSN (As := [a1]) hd hw hk (cat_cons e1 (fun v hv => by cases hv)) hst (h q hq) (kk q a ha)
theorem g_callV2I {a1 a2 : Value} {k2 : Mth} {idx c ci : Nat} {fs : List (Option Nat)} {g : Option (Int32 × St)} {ff : (Int32 × St) → Option α} (hd : dI k.2.1 pc (.invokevirtual idx) 3 pc') (hw : Cond.methodLink k.1.cls idx k2.1 ∈ TG) (hk : VirK k2 2) (hc : lay[c]? = some (.inr (.inr (ci, fs)))) (hv : VcK ci k2) (e1 : a1.category = 1) (e2 : a2.category = 1) (hst : (st.map fun v => v.category).sum ≤ 8) (h : SemG eI X k2 d 0 (ini k2 (.ref (xB X + c) :: [a1, a2])) [] S g) (kk : ∀ q, SemG emb X k (d + 1) pc' ls (.int q.1 :: st) q.2 (ff q)) : SemG emb X k (d + 1) pc ls (a2 :: a1 :: .ref (xB X + c) :: st) S (g.bind ff) := by
  intro a ha
  obtain ⟨q, hq, ha⟩ := Option.bind_eq_some_iff.mp ha
  obtain ⟨qc, h1, h2⟩ := hv
  exact ev_callV (As := [a1, a2]) hd hw hk (mkM_obj hc) h1 h2 (cat_cons e1 (cat_cons e2 (fun v hv => by cases hv))) hst (h q hq) (kk q a ha)
theorem g_callS2I {a1 a2 : Value} {k2 : Mth} {idx : Nat} {g : Option (Int32 × St)} {ff : (Int32 × St) → Option α} (hd : dI k.2.1 pc (.invokestatic idx) 3 pc') (hw : Cond.methodLink k.1.cls idx k2.1 ∈ TG) (hk : StaK k2 2) (e1 : a1.category = 1) (e2 : a2.category = 1) (hst : (st.map fun v => v.category).sum ≤ 8) (h : SemG eI X k2 d 0 (ini k2 [a1, a2]) [] S g) (kk : ∀ q, SemG emb X k (d + 1) pc' ls (.int q.1 :: st) q.2 (ff q)) : SemG emb X k (d + 1) pc ls (a2 :: a1 :: st) S (g.bind ff) := by
  intro a ha
  obtain ⟨q, hq, ha⟩ := Option.bind_eq_some_iff.mp ha
  exact ev_callS (As := [a1, a2]) hd hw hk (cat_cons e1 (cat_cons e2 (fun v hv => by cases hv))) hst (h q hq) (kk q a ha)
theorem g_callN2I {a1 a2 : Value} {k2 : Mth} {idx : Nat} {g : Option (Int32 × St)} {ff : (Int32 × St) → Option α} (hd : dI k.2.1 pc (.invokestatic idx) 3 pc') {host : String} (hw : (k.1.cls, idx, k2.1, host) ∈ nests) (hk : StaK k2 2) (e1 : a1.category = 1) (e2 : a2.category = 1) (hst : (st.map fun v => v.category).sum ≤ 8) (h : SemG eI X k2 d 0 (ini k2 [a1, a2]) [] S g) (kk : ∀ q, SemG emb X k (d + 1) pc' ls (.int q.1 :: st) q.2 (ff q)) : SemG emb X k (d + 1) pc ls (a2 :: a1 :: st) S (g.bind ff) := by
  intro a ha
  obtain ⟨q, hq, ha⟩ := Option.bind_eq_some_iff.mp ha
  exact ev_callSN (As := [a1, a2]) hd hw hk (cat_cons e1 (cat_cons e2 (fun v hv => by cases hv))) hst (h q hq) (kk q a ha)
theorem g_callV2V {a1 a2 : Value} {k2 : Mth} {idx c ci : Nat} {fs : List (Option Nat)} {g : Option (St)} {ff : St → Option α} (hd : dI k.2.1 pc (.invokevirtual idx) 3 pc') (hw : Cond.methodLink k.1.cls idx k2.1 ∈ TG) (hk : VirK k2 2) (hc : lay[c]? = some (.inr (.inr (ci, fs)))) (hv : VcK ci k2) (e1 : a1.category = 1) (e2 : a2.category = 1) (hst : (st.map fun v => v.category).sum ≤ 8) (h : SemG eV X k2 d 0 (ini k2 (.ref (xB X + c) :: [a1, a2])) [] S g) (kk : ∀ q, SemG emb X k (d + 1) pc' ls (st) q (ff q)) : SemG emb X k (d + 1) pc ls (a2 :: a1 :: .ref (xB X + c) :: st) S (g.bind ff) := by
  intro a ha
  obtain ⟨q, hq, ha⟩ := Option.bind_eq_some_iff.mp ha
  obtain ⟨qc, h1, h2⟩ := hv
  exact ev_callV (As := [a1, a2]) hd hw hk (mkM_obj hc) h1 h2 (cat_cons e1 (cat_cons e2 (fun v hv => by cases hv))) hst (h q hq) (kk q a ha)
theorem g_callS2V {a1 a2 : Value} {k2 : Mth} {idx : Nat} {g : Option (St)} {ff : St → Option α} (hd : dI k.2.1 pc (.invokestatic idx) 3 pc') (hw : Cond.methodLink k.1.cls idx k2.1 ∈ TG) (hk : StaK k2 2) (e1 : a1.category = 1) (e2 : a2.category = 1) (hst : (st.map fun v => v.category).sum ≤ 8) (h : SemG eV X k2 d 0 (ini k2 [a1, a2]) [] S g) (kk : ∀ q, SemG emb X k (d + 1) pc' ls (st) q (ff q)) : SemG emb X k (d + 1) pc ls (a2 :: a1 :: st) S (g.bind ff) := by
  intro a ha
  obtain ⟨q, hq, ha⟩ := Option.bind_eq_some_iff.mp ha
  exact ev_callS (As := [a1, a2]) hd hw hk (cat_cons e1 (cat_cons e2 (fun v hv => by cases hv))) hst (h q hq) (kk q a ha)
theorem g_callN2V {a1 a2 : Value} {k2 : Mth} {idx : Nat} {g : Option (St)} {ff : St → Option α} (hd : dI k.2.1 pc (.invokestatic idx) 3 pc') {host : String} (hw : (k.1.cls, idx, k2.1, host) ∈ nests) (hk : StaK k2 2) (e1 : a1.category = 1) (e2 : a2.category = 1) (hst : (st.map fun v => v.category).sum ≤ 8) (h : SemG eV X k2 d 0 (ini k2 [a1, a2]) [] S g) (kk : ∀ q, SemG emb X k (d + 1) pc' ls (st) q (ff q)) : SemG emb X k (d + 1) pc ls (a2 :: a1 :: st) S (g.bind ff) := by
  intro a ha
  obtain ⟨q, hq, ha⟩ := Option.bind_eq_some_iff.mp ha
  exact ev_callSN (As := [a1, a2]) hd hw hk (cat_cons e1 (cat_cons e2 (fun v hv => by cases hv))) hst (h q hq) (kk q a ha)
theorem g_callV3I {a1 a2 a3 : Value} {k2 : Mth} {idx c ci : Nat} {fs : List (Option Nat)} {g : Option (Int32 × St)} {ff : (Int32 × St) → Option α} (hd : dI k.2.1 pc (.invokevirtual idx) 3 pc') (hw : Cond.methodLink k.1.cls idx k2.1 ∈ TG) (hk : VirK k2 3) (hc : lay[c]? = some (.inr (.inr (ci, fs)))) (hv : VcK ci k2) (e1 : a1.category = 1) (e2 : a2.category = 1) (e3 : a3.category = 1) (hst : (st.map fun v => v.category).sum ≤ 8) (h : SemG eI X k2 d 0 (ini k2 (.ref (xB X + c) :: [a1, a2, a3])) [] S g) (kk : ∀ q, SemG emb X k (d + 1) pc' ls (.int q.1 :: st) q.2 (ff q)) : SemG emb X k (d + 1) pc ls (a3 :: a2 :: a1 :: .ref (xB X + c) :: st) S (g.bind ff) := by
  intro a ha
  obtain ⟨q, hq, ha⟩ := Option.bind_eq_some_iff.mp ha
  obtain ⟨qc, h1, h2⟩ := hv
  exact ev_callV (As := [a1, a2, a3]) hd hw hk (mkM_obj hc) h1 h2 (cat_cons e1 (cat_cons e2 (cat_cons e3 (fun v hv => by cases hv)))) hst (h q hq) (kk q a ha)
theorem g_callS3I {a1 a2 a3 : Value} {k2 : Mth} {idx : Nat} {g : Option (Int32 × St)} {ff : (Int32 × St) → Option α} (hd : dI k.2.1 pc (.invokestatic idx) 3 pc') (hw : Cond.methodLink k.1.cls idx k2.1 ∈ TG) (hk : StaK k2 3) (e1 : a1.category = 1) (e2 : a2.category = 1) (e3 : a3.category = 1) (hst : (st.map fun v => v.category).sum ≤ 8) (h : SemG eI X k2 d 0 (ini k2 [a1, a2, a3]) [] S g) (kk : ∀ q, SemG emb X k (d + 1) pc' ls (.int q.1 :: st) q.2 (ff q)) : SemG emb X k (d + 1) pc ls (a3 :: a2 :: a1 :: st) S (g.bind ff) := by
  intro a ha
  obtain ⟨q, hq, ha⟩ := Option.bind_eq_some_iff.mp ha
  exact ev_callS (As := [a1, a2, a3]) hd hw hk (cat_cons e1 (cat_cons e2 (cat_cons e3 (fun v hv => by cases hv)))) hst (h q hq) (kk q a ha)
theorem g_callN3I {a1 a2 a3 : Value} {k2 : Mth} {idx : Nat} {g : Option (Int32 × St)} {ff : (Int32 × St) → Option α} (hd : dI k.2.1 pc (.invokestatic idx) 3 pc') {host : String} (hw : (k.1.cls, idx, k2.1, host) ∈ nests) (hk : StaK k2 3) (e1 : a1.category = 1) (e2 : a2.category = 1) (e3 : a3.category = 1) (hst : (st.map fun v => v.category).sum ≤ 8) (h : SemG eI X k2 d 0 (ini k2 [a1, a2, a3]) [] S g) (kk : ∀ q, SemG emb X k (d + 1) pc' ls (.int q.1 :: st) q.2 (ff q)) : SemG emb X k (d + 1) pc ls (a3 :: a2 :: a1 :: st) S (g.bind ff) := by
  intro a ha
  obtain ⟨q, hq, ha⟩ := Option.bind_eq_some_iff.mp ha
  exact ev_callSN (As := [a1, a2, a3]) hd hw hk (cat_cons e1 (cat_cons e2 (cat_cons e3 (fun v hv => by cases hv)))) hst (h q hq) (kk q a ha)
theorem g_callV3V {a1 a2 a3 : Value} {k2 : Mth} {idx c ci : Nat} {fs : List (Option Nat)} {g : Option (St)} {ff : St → Option α} (hd : dI k.2.1 pc (.invokevirtual idx) 3 pc') (hw : Cond.methodLink k.1.cls idx k2.1 ∈ TG) (hk : VirK k2 3) (hc : lay[c]? = some (.inr (.inr (ci, fs)))) (hv : VcK ci k2) (e1 : a1.category = 1) (e2 : a2.category = 1) (e3 : a3.category = 1) (hst : (st.map fun v => v.category).sum ≤ 8) (h : SemG eV X k2 d 0 (ini k2 (.ref (xB X + c) :: [a1, a2, a3])) [] S g) (kk : ∀ q, SemG emb X k (d + 1) pc' ls (st) q (ff q)) : SemG emb X k (d + 1) pc ls (a3 :: a2 :: a1 :: .ref (xB X + c) :: st) S (g.bind ff) := by
  intro a ha
  obtain ⟨q, hq, ha⟩ := Option.bind_eq_some_iff.mp ha
  obtain ⟨qc, h1, h2⟩ := hv
  exact ev_callV (As := [a1, a2, a3]) hd hw hk (mkM_obj hc) h1 h2 (cat_cons e1 (cat_cons e2 (cat_cons e3 (fun v hv => by cases hv)))) hst (h q hq) (kk q a ha)
theorem g_callS3V {a1 a2 a3 : Value} {k2 : Mth} {idx : Nat} {g : Option (St)} {ff : St → Option α} (hd : dI k.2.1 pc (.invokestatic idx) 3 pc') (hw : Cond.methodLink k.1.cls idx k2.1 ∈ TG) (hk : StaK k2 3) (e1 : a1.category = 1) (e2 : a2.category = 1) (e3 : a3.category = 1) (hst : (st.map fun v => v.category).sum ≤ 8) (h : SemG eV X k2 d 0 (ini k2 [a1, a2, a3]) [] S g) (kk : ∀ q, SemG emb X k (d + 1) pc' ls (st) q (ff q)) : SemG emb X k (d + 1) pc ls (a3 :: a2 :: a1 :: st) S (g.bind ff) := by
  intro a ha
  obtain ⟨q, hq, ha⟩ := Option.bind_eq_some_iff.mp ha
  exact ev_callS (As := [a1, a2, a3]) hd hw hk (cat_cons e1 (cat_cons e2 (cat_cons e3 (fun v hv => by cases hv)))) hst (h q hq) (kk q a ha)
theorem g_callN3V {a1 a2 a3 : Value} {k2 : Mth} {idx : Nat} {g : Option (St)} {ff : St → Option α} (hd : dI k.2.1 pc (.invokestatic idx) 3 pc') {host : String} (hw : (k.1.cls, idx, k2.1, host) ∈ nests) (hk : StaK k2 3) (e1 : a1.category = 1) (e2 : a2.category = 1) (e3 : a3.category = 1) (hst : (st.map fun v => v.category).sum ≤ 8) (h : SemG eV X k2 d 0 (ini k2 [a1, a2, a3]) [] S g) (kk : ∀ q, SemG emb X k (d + 1) pc' ls (st) q (ff q)) : SemG emb X k (d + 1) pc ls (a3 :: a2 :: a1 :: st) S (g.bind ff) := by
  intro a ha
  obtain ⟨q, hq, ha⟩ := Option.bind_eq_some_iff.mp ha
  exact ev_callSN (As := [a1, a2, a3]) hd hw hk (cat_cons e1 (cat_cons e2 (cat_cons e3 (fun v hv => by cases hv)))) hst (h q hq) (kk q a ha)
theorem g_callV4I {a1 a2 a3 a4 : Value} {k2 : Mth} {idx c ci : Nat} {fs : List (Option Nat)} {g : Option (Int32 × St)} {ff : (Int32 × St) → Option α} (hd : dI k.2.1 pc (.invokevirtual idx) 3 pc') (hw : Cond.methodLink k.1.cls idx k2.1 ∈ TG) (hk : VirK k2 4) (hc : lay[c]? = some (.inr (.inr (ci, fs)))) (hv : VcK ci k2) (e1 : a1.category = 1) (e2 : a2.category = 1) (e3 : a3.category = 1) (e4 : a4.category = 1) (hst : (st.map fun v => v.category).sum ≤ 8) (h : SemG eI X k2 d 0 (ini k2 (.ref (xB X + c) :: [a1, a2, a3, a4])) [] S g) (kk : ∀ q, SemG emb X k (d + 1) pc' ls (.int q.1 :: st) q.2 (ff q)) : SemG emb X k (d + 1) pc ls (a4 :: a3 :: a2 :: a1 :: .ref (xB X + c) :: st) S (g.bind ff) := by
  intro a ha
  obtain ⟨q, hq, ha⟩ := Option.bind_eq_some_iff.mp ha
  obtain ⟨qc, h1, h2⟩ := hv
  exact ev_callV (As := [a1, a2, a3, a4]) hd hw hk (mkM_obj hc) h1 h2 (cat_cons e1 (cat_cons e2 (cat_cons e3 (cat_cons e4 (fun v hv => by cases hv))))) hst (h q hq) (kk q a ha)
theorem g_callS4I {a1 a2 a3 a4 : Value} {k2 : Mth} {idx : Nat} {g : Option (Int32 × St)} {ff : (Int32 × St) → Option α} (hd : dI k.2.1 pc (.invokestatic idx) 3 pc') (hw : Cond.methodLink k.1.cls idx k2.1 ∈ TG) (hk : StaK k2 4) (e1 : a1.category = 1) (e2 : a2.category = 1) (e3 : a3.category = 1) (e4 : a4.category = 1) (hst : (st.map fun v => v.category).sum ≤ 8) (h : SemG eI X k2 d 0 (ini k2 [a1, a2, a3, a4]) [] S g) (kk : ∀ q, SemG emb X k (d + 1) pc' ls (.int q.1 :: st) q.2 (ff q)) : SemG emb X k (d + 1) pc ls (a4 :: a3 :: a2 :: a1 :: st) S (g.bind ff) := by
  intro a ha
  obtain ⟨q, hq, ha⟩ := Option.bind_eq_some_iff.mp ha
  exact ev_callS (As := [a1, a2, a3, a4]) hd hw hk (cat_cons e1 (cat_cons e2 (cat_cons e3 (cat_cons e4 (fun v hv => by cases hv))))) hst (h q hq) (kk q a ha)
theorem g_callN4I {a1 a2 a3 a4 : Value} {k2 : Mth} {idx : Nat} {g : Option (Int32 × St)} {ff : (Int32 × St) → Option α} (hd : dI k.2.1 pc (.invokestatic idx) 3 pc') {host : String} (hw : (k.1.cls, idx, k2.1, host) ∈ nests) (hk : StaK k2 4) (e1 : a1.category = 1) (e2 : a2.category = 1) (e3 : a3.category = 1) (e4 : a4.category = 1) (hst : (st.map fun v => v.category).sum ≤ 8) (h : SemG eI X k2 d 0 (ini k2 [a1, a2, a3, a4]) [] S g) (kk : ∀ q, SemG emb X k (d + 1) pc' ls (.int q.1 :: st) q.2 (ff q)) : SemG emb X k (d + 1) pc ls (a4 :: a3 :: a2 :: a1 :: st) S (g.bind ff) := by
  intro a ha
  obtain ⟨q, hq, ha⟩ := Option.bind_eq_some_iff.mp ha
  exact ev_callSN (As := [a1, a2, a3, a4]) hd hw hk (cat_cons e1 (cat_cons e2 (cat_cons e3 (cat_cons e4 (fun v hv => by cases hv))))) hst (h q hq) (kk q a ha)
theorem g_callV4V {a1 a2 a3 a4 : Value} {k2 : Mth} {idx c ci : Nat} {fs : List (Option Nat)} {g : Option (St)} {ff : St → Option α} (hd : dI k.2.1 pc (.invokevirtual idx) 3 pc') (hw : Cond.methodLink k.1.cls idx k2.1 ∈ TG) (hk : VirK k2 4) (hc : lay[c]? = some (.inr (.inr (ci, fs)))) (hv : VcK ci k2) (e1 : a1.category = 1) (e2 : a2.category = 1) (e3 : a3.category = 1) (e4 : a4.category = 1) (hst : (st.map fun v => v.category).sum ≤ 8) (h : SemG eV X k2 d 0 (ini k2 (.ref (xB X + c) :: [a1, a2, a3, a4])) [] S g) (kk : ∀ q, SemG emb X k (d + 1) pc' ls (st) q (ff q)) : SemG emb X k (d + 1) pc ls (a4 :: a3 :: a2 :: a1 :: .ref (xB X + c) :: st) S (g.bind ff) := by
  intro a ha
  obtain ⟨q, hq, ha⟩ := Option.bind_eq_some_iff.mp ha
  obtain ⟨qc, h1, h2⟩ := hv
  exact ev_callV (As := [a1, a2, a3, a4]) hd hw hk (mkM_obj hc) h1 h2 (cat_cons e1 (cat_cons e2 (cat_cons e3 (cat_cons e4 (fun v hv => by cases hv))))) hst (h q hq) (kk q a ha)
theorem g_callS4V {a1 a2 a3 a4 : Value} {k2 : Mth} {idx : Nat} {g : Option (St)} {ff : St → Option α} (hd : dI k.2.1 pc (.invokestatic idx) 3 pc') (hw : Cond.methodLink k.1.cls idx k2.1 ∈ TG) (hk : StaK k2 4) (e1 : a1.category = 1) (e2 : a2.category = 1) (e3 : a3.category = 1) (e4 : a4.category = 1) (hst : (st.map fun v => v.category).sum ≤ 8) (h : SemG eV X k2 d 0 (ini k2 [a1, a2, a3, a4]) [] S g) (kk : ∀ q, SemG emb X k (d + 1) pc' ls (st) q (ff q)) : SemG emb X k (d + 1) pc ls (a4 :: a3 :: a2 :: a1 :: st) S (g.bind ff) := by
  intro a ha
  obtain ⟨q, hq, ha⟩ := Option.bind_eq_some_iff.mp ha
  exact ev_callS (As := [a1, a2, a3, a4]) hd hw hk (cat_cons e1 (cat_cons e2 (cat_cons e3 (cat_cons e4 (fun v hv => by cases hv))))) hst (h q hq) (kk q a ha)
theorem g_callN4V {a1 a2 a3 a4 : Value} {k2 : Mth} {idx : Nat} {g : Option (St)} {ff : St → Option α} (hd : dI k.2.1 pc (.invokestatic idx) 3 pc') {host : String} (hw : (k.1.cls, idx, k2.1, host) ∈ nests) (hk : StaK k2 4) (e1 : a1.category = 1) (e2 : a2.category = 1) (e3 : a3.category = 1) (e4 : a4.category = 1) (hst : (st.map fun v => v.category).sum ≤ 8) (h : SemG eV X k2 d 0 (ini k2 [a1, a2, a3, a4]) [] S g) (kk : ∀ q, SemG emb X k (d + 1) pc' ls (st) q (ff q)) : SemG emb X k (d + 1) pc ls (a4 :: a3 :: a2 :: a1 :: st) S (g.bind ff) := by
  intro a ha
  obtain ⟨q, hq, ha⟩ := Option.bind_eq_some_iff.mp ha
  exact ev_callSN (As := [a1, a2, a3, a4]) hd hw hk (cat_cons e1 (cat_cons e2 (cat_cons e3 (cat_cons e4 (fun v hv => by cases hv))))) hst (h q hq) (kk q a ha)
theorem g_callV5I {a1 a2 a3 a4 a5 : Value} {k2 : Mth} {idx c ci : Nat} {fs : List (Option Nat)} {g : Option (Int32 × St)} {ff : (Int32 × St) → Option α} (hd : dI k.2.1 pc (.invokevirtual idx) 3 pc') (hw : Cond.methodLink k.1.cls idx k2.1 ∈ TG) (hk : VirK k2 5) (hc : lay[c]? = some (.inr (.inr (ci, fs)))) (hv : VcK ci k2) (e1 : a1.category = 1) (e2 : a2.category = 1) (e3 : a3.category = 1) (e4 : a4.category = 1) (e5 : a5.category = 1) (hst : (st.map fun v => v.category).sum ≤ 8) (h : SemG eI X k2 d 0 (ini k2 (.ref (xB X + c) :: [a1, a2, a3, a4, a5])) [] S g) (kk : ∀ q, SemG emb X k (d + 1) pc' ls (.int q.1 :: st) q.2 (ff q)) : SemG emb X k (d + 1) pc ls (a5 :: a4 :: a3 :: a2 :: a1 :: .ref (xB X + c) :: st) S (g.bind ff) := by
  intro a ha
  obtain ⟨q, hq, ha⟩ := Option.bind_eq_some_iff.mp ha
  obtain ⟨qc, h1, h2⟩ := hv
  exact ev_callV (As := [a1, a2, a3, a4, a5]) hd hw hk (mkM_obj hc) h1 h2 (cat_cons e1 (cat_cons e2 (cat_cons e3 (cat_cons e4 (cat_cons e5 (fun v hv => by cases hv)))))) hst (h q hq) (kk q a ha)
theorem g_callS5I {a1 a2 a3 a4 a5 : Value} {k2 : Mth} {idx : Nat} {g : Option (Int32 × St)} {ff : (Int32 × St) → Option α} (hd : dI k.2.1 pc (.invokestatic idx) 3 pc') (hw : Cond.methodLink k.1.cls idx k2.1 ∈ TG) (hk : StaK k2 5) (e1 : a1.category = 1) (e2 : a2.category = 1) (e3 : a3.category = 1) (e4 : a4.category = 1) (e5 : a5.category = 1) (hst : (st.map fun v => v.category).sum ≤ 8) (h : SemG eI X k2 d 0 (ini k2 [a1, a2, a3, a4, a5]) [] S g) (kk : ∀ q, SemG emb X k (d + 1) pc' ls (.int q.1 :: st) q.2 (ff q)) : SemG emb X k (d + 1) pc ls (a5 :: a4 :: a3 :: a2 :: a1 :: st) S (g.bind ff) := by
  intro a ha
  obtain ⟨q, hq, ha⟩ := Option.bind_eq_some_iff.mp ha
  exact ev_callS (As := [a1, a2, a3, a4, a5]) hd hw hk (cat_cons e1 (cat_cons e2 (cat_cons e3 (cat_cons e4 (cat_cons e5 (fun v hv => by cases hv)))))) hst (h q hq) (kk q a ha)
theorem g_callN5I {a1 a2 a3 a4 a5 : Value} {k2 : Mth} {idx : Nat} {g : Option (Int32 × St)} {ff : (Int32 × St) → Option α} (hd : dI k.2.1 pc (.invokestatic idx) 3 pc') {host : String} (hw : (k.1.cls, idx, k2.1, host) ∈ nests) (hk : StaK k2 5) (e1 : a1.category = 1) (e2 : a2.category = 1) (e3 : a3.category = 1) (e4 : a4.category = 1) (e5 : a5.category = 1) (hst : (st.map fun v => v.category).sum ≤ 8) (h : SemG eI X k2 d 0 (ini k2 [a1, a2, a3, a4, a5]) [] S g) (kk : ∀ q, SemG emb X k (d + 1) pc' ls (.int q.1 :: st) q.2 (ff q)) : SemG emb X k (d + 1) pc ls (a5 :: a4 :: a3 :: a2 :: a1 :: st) S (g.bind ff) := by
  intro a ha
  obtain ⟨q, hq, ha⟩ := Option.bind_eq_some_iff.mp ha
  exact ev_callSN (As := [a1, a2, a3, a4, a5]) hd hw hk (cat_cons e1 (cat_cons e2 (cat_cons e3 (cat_cons e4 (cat_cons e5 (fun v hv => by cases hv)))))) hst (h q hq) (kk q a ha)
theorem g_callV5V {a1 a2 a3 a4 a5 : Value} {k2 : Mth} {idx c ci : Nat} {fs : List (Option Nat)} {g : Option (St)} {ff : St → Option α} (hd : dI k.2.1 pc (.invokevirtual idx) 3 pc') (hw : Cond.methodLink k.1.cls idx k2.1 ∈ TG) (hk : VirK k2 5) (hc : lay[c]? = some (.inr (.inr (ci, fs)))) (hv : VcK ci k2) (e1 : a1.category = 1) (e2 : a2.category = 1) (e3 : a3.category = 1) (e4 : a4.category = 1) (e5 : a5.category = 1) (hst : (st.map fun v => v.category).sum ≤ 8) (h : SemG eV X k2 d 0 (ini k2 (.ref (xB X + c) :: [a1, a2, a3, a4, a5])) [] S g) (kk : ∀ q, SemG emb X k (d + 1) pc' ls (st) q (ff q)) : SemG emb X k (d + 1) pc ls (a5 :: a4 :: a3 :: a2 :: a1 :: .ref (xB X + c) :: st) S (g.bind ff) := by
  intro a ha
  obtain ⟨q, hq, ha⟩ := Option.bind_eq_some_iff.mp ha
  obtain ⟨qc, h1, h2⟩ := hv
  exact ev_callV (As := [a1, a2, a3, a4, a5]) hd hw hk (mkM_obj hc) h1 h2 (cat_cons e1 (cat_cons e2 (cat_cons e3 (cat_cons e4 (cat_cons e5 (fun v hv => by cases hv)))))) hst (h q hq) (kk q a ha)
theorem g_callS5V {a1 a2 a3 a4 a5 : Value} {k2 : Mth} {idx : Nat} {g : Option (St)} {ff : St → Option α} (hd : dI k.2.1 pc (.invokestatic idx) 3 pc') (hw : Cond.methodLink k.1.cls idx k2.1 ∈ TG) (hk : StaK k2 5) (e1 : a1.category = 1) (e2 : a2.category = 1) (e3 : a3.category = 1) (e4 : a4.category = 1) (e5 : a5.category = 1) (hst : (st.map fun v => v.category).sum ≤ 8) (h : SemG eV X k2 d 0 (ini k2 [a1, a2, a3, a4, a5]) [] S g) (kk : ∀ q, SemG emb X k (d + 1) pc' ls (st) q (ff q)) : SemG emb X k (d + 1) pc ls (a5 :: a4 :: a3 :: a2 :: a1 :: st) S (g.bind ff) := by
  intro a ha
  obtain ⟨q, hq, ha⟩ := Option.bind_eq_some_iff.mp ha
  exact ev_callS (As := [a1, a2, a3, a4, a5]) hd hw hk (cat_cons e1 (cat_cons e2 (cat_cons e3 (cat_cons e4 (cat_cons e5 (fun v hv => by cases hv)))))) hst (h q hq) (kk q a ha)
theorem g_callN5V {a1 a2 a3 a4 a5 : Value} {k2 : Mth} {idx : Nat} {g : Option (St)} {ff : St → Option α} (hd : dI k.2.1 pc (.invokestatic idx) 3 pc') {host : String} (hw : (k.1.cls, idx, k2.1, host) ∈ nests) (hk : StaK k2 5) (e1 : a1.category = 1) (e2 : a2.category = 1) (e3 : a3.category = 1) (e4 : a4.category = 1) (e5 : a5.category = 1) (hst : (st.map fun v => v.category).sum ≤ 8) (h : SemG eV X k2 d 0 (ini k2 [a1, a2, a3, a4, a5]) [] S g) (kk : ∀ q, SemG emb X k (d + 1) pc' ls (st) q (ff q)) : SemG emb X k (d + 1) pc ls (a5 :: a4 :: a3 :: a2 :: a1 :: st) S (g.bind ff) := by
  intro a ha
  obtain ⟨q, hq, ha⟩ := Option.bind_eq_some_iff.mp ha
  exact ev_callSN (As := [a1, a2, a3, a4, a5]) hd hw hk (cat_cons e1 (cat_cons e2 (cat_cons e3 (cat_cons e4 (cat_cons e5 (fun v hv => by cases hv)))))) hst (h q hq) (kk q a ha)
end G
end
section
theorem d_L_init_0 : dI prog_2_method_1_code 0 (.aload_n 0) 1 1 := by decide +kernel
theorem d_L_init_1 : dI prog_2_method_1_code 1 (.invokespecial 3) 3 4 := by decide +kernel
theorem d_L_init_4 : dI prog_2_method_1_code 4 (.aload_n 0) 1 5 := by decide +kernel
theorem d_L_init_5 : dI prog_2_method_1_code 5 (.bipush 10) 2 7 ∧ (Int8.ofInt 10).toInt32 = 10 := by decide +kernel
theorem d_L_init_7 : dI prog_2_method_1_code 7 (.newarray .int) 2 9 := by decide +kernel
theorem d_L_init_9 : dI prog_2_method_1_code 9 .dup 1 10 := by decide +kernel
theorem d_L_init_10 : dI prog_2_method_1_code 10 (.iconst 0) 1 11 ∧ Int32.ofInt 0 = 0 := by decide +kernel
theorem d_L_init_11 : dI prog_2_method_1_code 11 (.bipush 20) 2 13 ∧ (Int8.ofInt 20).toInt32 = 20 := by decide +kernel
theorem d_L_init_13 : dI prog_2_method_1_code 13 .iastore 1 14 := by decide +kernel
theorem d_L_init_14 : dI prog_2_method_1_code 14 .dup 1 15 := by decide +kernel
theorem d_L_init_15 : dI prog_2_method_1_code 15 (.iconst 1) 1 16 ∧ Int32.ofInt 1 = 1 := by decide +kernel
theorem d_L_init_16 : dI prog_2_method_1_code 16 (.iconst 0) 1 17 ∧ Int32.ofInt 0 = 0 := by decide +kernel
theorem d_L_init_17 : dI prog_2_method_1_code 17 .iastore 1 18 := by decide +kernel
theorem d_L_init_18 : dI prog_2_method_1_code 18 .dup 1 19 := by decide +kernel
theorem d_L_init_19 : dI prog_2_method_1_code 19 (.iconst 2) 1 20 ∧ Int32.ofInt 2 = 2 := by decide +kernel
theorem d_L_init_20 : dI prog_2_method_1_code 20 (.bipush 20) 2 22 ∧ (Int8.ofInt 20).toInt32 = 20 := by decide +kernel
theorem d_L_init_22 : dI prog_2_method_1_code 22 .iastore 1 23 := by decide +kernel
theorem d_L_init_23 : dI prog_2_method_1_code 23 .dup 1 24 := by decide +kernel
theorem d_L_init_24 : dI prog_2_method_1_code 24 (.iconst 3) 1 25 ∧ Int32.ofInt 3 = 3 := by decide +kernel
theorem d_L_init_25 : dI prog_2_method_1_code 25 (.iconst 0) 1 26 ∧ Int32.ofInt 0 = 0 := by decide +kernel
theorem d_L_init_26 : dI prog_2_method_1_code 26 .iastore 1 27 := by decide +kernel
theorem d_L_init_27 : dI prog_2_method_1_code 27 .dup 1 28 := by decide +kernel
theorem d_L_init_28 : dI prog_2_method_1_code 28 (.iconst 4) 1 29 ∧ Int32.ofInt 4 = 4 := by decide +kernel
theorem d_L_init_29 : dI prog_2_method_1_code 29 (.iconst 2) 1 30 ∧ Int32.ofInt 2 = 2 := by decide +kernel
theorem d_L_init_30 : dI prog_2_method_1_code 30 .iastore 1 31 := by decide +kernel
theorem d_L_init_31 : dI prog_2_method_1_code 31 .dup 1 32 := by decide +kernel
theorem d_L_init_32 : dI prog_2_method_1_code 32 (.iconst 5) 1 33 ∧ Int32.ofInt 5 = 5 := by decide +kernel
theorem d_L_init_33 : dI prog_2_method_1_code 33 (.iconst 4) 1 34 ∧ Int32.ofInt 4 = 4 := by decide +kernel
theorem d_L_init_34 : dI prog_2_method_1_code 34 .iastore 1 35 := by decide +kernel
theorem d_L_init_35 : dI prog_2_method_1_code 35 .dup 1 36 := by decide +kernel
theorem d_L_init_36 : dI prog_2_method_1_code 36 (.bipush 6) 2 38 ∧ (Int8.ofInt 6).toInt32 = 6 := by decide +kernel
theorem d_L_init_38 : dI prog_2_method_1_code 38 (.sipush 900) 3 41 ∧ (Int16.ofInt 900).toInt32 = 900 := by decide +kernel
theorem d_L_init_41 : dI prog_2_method_1_code 41 .iastore 1 42 := by decide +kernel
theorem d_L_init_42 : dI prog_2_method_1_code 42 .dup 1 43 := by decide +kernel
theorem d_L_init_43 : dI prog_2_method_1_code 43 (.bipush 7) 2 45 ∧ (Int8.ofInt 7).toInt32 = 7 := by decide +kernel
theorem d_L_init_45 : dI prog_2_method_1_code 45 (.iconst 0) 1 46 ∧ Int32.ofInt 0 = 0 := by decide +kernel
theorem d_L_init_46 : dI prog_2_method_1_code 46 .iastore 1 47 := by decide +kernel
theorem d_L_init_47 : dI prog_2_method_1_code 47 .dup 1 48 := by decide +kernel
theorem d_L_init_48 : dI prog_2_method_1_code 48 (.bipush 8) 2 50 ∧ (Int8.ofInt 8).toInt32 = 8 := by decide +kernel
theorem d_L_init_50 : dI prog_2_method_1_code 50 (.iconst 0) 1 51 ∧ Int32.ofInt 0 = 0 := by decide +kernel
theorem d_L_init_51 : dI prog_2_method_1_code 51 .iastore 1 52 := by decide +kernel
theorem d_L_init_52 : dI prog_2_method_1_code 52 .dup 1 53 := by decide +kernel
theorem d_L_init_53 : dI prog_2_method_1_code 53 (.bipush 9) 2 55 ∧ (Int8.ofInt 9).toInt32 = 9 := by decide +kernel
theorem d_L_init_55 : dI prog_2_method_1_code 55 (.iconst 0) 1 56 ∧ Int32.ofInt 0 = 0 := by decide +kernel
theorem d_L_init_56 : dI prog_2_method_1_code 56 .iastore 1 57 := by decide +kernel
theorem d_L_init_57 : dI prog_2_method_1_code 57 (.putfield 9) 3 60 := by decide +kernel
theorem d_L_init_60 : dI prog_2_method_1_code 60 (.aload_n 0) 1 61 := by decide +kernel
theorem d_L_init_61 : dI prog_2_method_1_code 61 (.aload_n 1) 1 62 := by decide +kernel
theorem d_L_init_62 : dI prog_2_method_1_code 62 (.putfield 15) 3 65 := by decide +kernel
theorem d_L_init_65 : decode prog_2_method_1_code 65 = .ok (.return_, 1) := by decide +kernel
theorem d_L_become_0 : dI prog_2_method_2_code 0 (.aload_n 1) 1 1 := by decide +kernel
theorem d_L_become_1 : dI prog_2_method_2_code 1 (.getfield 9) 3 4 := by decide +kernel
theorem d_L_become_4 : dI prog_2_method_2_code 4 (.iconst 0) 1 5 ∧ Int32.ofInt 0 = 0 := by decide +kernel
theorem d_L_become_5 : dI prog_2_method_2_code 5 (.aload_n 0) 1 6 := by decide +kernel
theorem d_L_become_6 : dI prog_2_method_2_code 6 (.getfield 9) 3 9 := by decide +kernel
theorem d_L_become_9 : dI prog_2_method_2_code 9 (.iconst 0) 1 10 ∧ Int32.ofInt 0 = 0 := by decide +kernel
theorem d_L_become_10 : dI prog_2_method_2_code 10 (.bipush 10) 2 12 ∧ (Int8.ofInt 10).toInt32 = 10 := by decide +kernel
theorem d_L_become_12 : dI prog_2_method_2_code 12 (.invokestatic 18) 3 15 := by decide +kernel
theorem d_L_become_15 : decode prog_2_method_2_code 15 = .ok (.return_, 1) := by decide +kernel
theorem d_L_since_0 : dI prog_2_method_3_code 0 (.iload_n 2) 1 1 := by decide +kernel
theorem d_L_since_1 : dJ prog_2_method_3_code 1 (.ifCond .lt 25) 25 4 26 := by decide +kernel
theorem d_L_since_4 : dI prog_2_method_3_code 4 (.iload_n 2) 1 5 := by decide +kernel
theorem d_L_since_5 : dI prog_2_method_3_code 5 (.bipush 10) 2 7 ∧ (Int8.ofInt 10).toInt32 = 10 := by decide +kernel
theorem d_L_since_7 : dJ prog_2_method_3_code 7 (.if_icmp .ge 19) 19 10 26 := by decide +kernel
theorem d_L_since_10 : dI prog_2_method_3_code 10 (.aload_n 0) 1 11 := by decide +kernel
theorem d_L_since_11 : dI prog_2_method_3_code 11 (.getfield 9) 3 14 := by decide +kernel
theorem d_L_since_14 : dI prog_2_method_3_code 14 (.iload_n 2) 1 15 := by decide +kernel
theorem d_L_since_15 : dI prog_2_method_3_code 15 .iaload 1 16 := by decide +kernel
theorem d_L_since_16 : dI prog_2_method_3_code 16 (.aload_n 1) 1 17 := by decide +kernel
theorem d_L_since_17 : dI prog_2_method_3_code 17 (.getfield 9) 3 20 := by decide +kernel
theorem d_L_since_20 : dI prog_2_method_3_code 20 (.iload_n 2) 1 21 := by decide +kernel
theorem d_L_since_21 : dI prog_2_method_3_code 21 .iaload 1 22 := by decide +kernel
theorem d_L_since_22 : dI prog_2_method_3_code 22 .isub 1 23 := by decide +kernel
theorem d_L_since_23 : dJ prog_2_method_3_code 23 (.goto 4) 4 26 27 := by decide +kernel
theorem d_L_since_26 : dI prog_2_method_3_code 26 (.iconst 0) 1 27 ∧ Int32.ofInt 0 = 0 := by decide +kernel
theorem d_L_since_27 : decode prog_2_method_3_code 27 = .ok (.ireturn, 1) := by decide +kernel
theorem d_L_isOut_0 : dI prog_2_method_4_code 0 (.aload_n 0) 1 1 := by decide +kernel
theorem d_L_isOut_1 : dI prog_2_method_4_code 1 (.getfield 9) 3 4 := by decide +kernel
theorem d_L_isOut_4 : dI prog_2_method_4_code 4 (.iconst 0) 1 5 ∧ Int32.ofInt 0 = 0 := by decide +kernel
theorem d_L_isOut_5 : dI prog_2_method_4_code 5 .iaload 1 6 := by decide +kernel
theorem d_L_isOut_6 : dI prog_2_method_4_code 6 (.invokestatic 24) 3 9 := by decide +kernel
theorem d_L_isOut_9 : dJ prog_2_method_4_code 9 (.ifCond .ne 7) 7 12 16 := by decide +kernel
theorem d_L_isOut_12 : dI prog_2_method_4_code 12 (.iconst 1) 1 13 ∧ Int32.ofInt 1 = 1 := by decide +kernel
theorem d_L_isOut_13 : dJ prog_2_method_4_code 13 (.goto 4) 4 16 17 := by decide +kernel
theorem d_L_isOut_16 : dI prog_2_method_4_code 16 (.iconst 0) 1 17 ∧ Int32.ofInt 0 = 0 := by decide +kernel
theorem d_L_isOut_17 : decode prog_2_method_4_code 17 = .ok (.ireturn, 1) := by decide +kernel
theorem d_L_hour_0 : dI prog_2_method_5_code 0 (.bipush 14) 2 2 ∧ (Int8.ofInt 14).toInt32 = 14 := by decide +kernel
theorem d_L_hour_2 : dI prog_2_method_5_code 2 (.aload_n 0) 1 3 := by decide +kernel
theorem d_L_hour_3 : dI prog_2_method_5_code 3 (.getfield 9) 3 6 := by decide +kernel
theorem d_L_hour_6 : dI prog_2_method_5_code 6 (.bipush 7) 2 8 ∧ (Int8.ofInt 7).toInt32 = 7 := by decide +kernel
theorem d_L_hour_8 : dI prog_2_method_5_code 8 .iaload 1 9 := by decide +kernel
theorem d_L_hour_9 : dI prog_2_method_5_code 9 (.bipush 60) 2 11 ∧ (Int8.ofInt 60).toInt32 = 60 := by decide +kernel
theorem d_L_hour_11 : dI prog_2_method_5_code 11 .idiv 1 12 := by decide +kernel
theorem d_L_hour_12 : dI prog_2_method_5_code 12 .iadd 1 13 := by decide +kernel
theorem d_L_hour_13 : dI prog_2_method_5_code 13 (.bipush 24) 2 15 ∧ (Int8.ofInt 24).toInt32 = 24 := by decide +kernel
theorem d_L_hour_15 : dI prog_2_method_5_code 15 .irem 1 16 := by decide +kernel
theorem d_L_hour_16 : decode prog_2_method_5_code 16 = .ok (.ireturn, 1) := by decide +kernel
theorem d_L_heat_0 : dI prog_2_method_6_code 0 (.aload_n 0) 1 1 := by decide +kernel
theorem d_L_heat_1 : dI prog_2_method_6_code 1 (.invokevirtual 28) 3 4 := by decide +kernel
theorem d_L_heat_4 : dI prog_2_method_6_code 4 (.istore_n 1) 1 5 := by decide +kernel
theorem d_L_heat_5 : dI prog_2_method_6_code 5 (.iload_n 1) 1 6 := by decide +kernel
theorem d_L_heat_6 : dI prog_2_method_6_code 6 (.bipush 10) 2 8 ∧ (Int8.ofInt 10).toInt32 = 10 := by decide +kernel
theorem d_L_heat_8 : dJ prog_2_method_6_code 8 (.if_icmp .lt 11) 11 11 19 := by decide +kernel
theorem d_L_heat_11 : dI prog_2_method_6_code 11 (.iload_n 1) 1 12 := by decide +kernel
theorem d_L_heat_12 : dI prog_2_method_6_code 12 (.bipush 16) 2 14 ∧ (Int8.ofInt 16).toInt32 = 16 := by decide +kernel
theorem d_L_heat_14 : dJ prog_2_method_6_code 14 (.if_icmp .gt 5) 5 17 19 := by decide +kernel
theorem d_L_heat_17 : dI prog_2_method_6_code 17 (.iconst 3) 1 18 ∧ Int32.ofInt 3 = 3 := by decide +kernel
theorem d_L_heat_18 : decode prog_2_method_6_code 18 = .ok (.ireturn, 1) := by decide +kernel
theorem d_L_heat_19 : dI prog_2_method_6_code 19 (.iload_n 1) 1 20 := by decide +kernel
theorem d_L_heat_20 : dI prog_2_method_6_code 20 (.bipush 20) 2 22 ∧ (Int8.ofInt 20).toInt32 = 20 := by decide +kernel
theorem d_L_heat_22 : dJ prog_2_method_6_code 22 (.if_icmp .ge 8) 8 25 30 := by decide +kernel
theorem d_L_heat_25 : dI prog_2_method_6_code 25 (.iload_n 1) 1 26 := by decide +kernel
theorem d_L_heat_26 : dI prog_2_method_6_code 26 (.iconst 5) 1 27 ∧ Int32.ofInt 5 = 5 := by decide +kernel
theorem d_L_heat_27 : dJ prog_2_method_6_code 27 (.if_icmp .gt 7) 7 30 34 := by decide +kernel
theorem d_L_heat_30 : dI prog_2_method_6_code 30 (.iconst 1) 1 31 ∧ Int32.ofInt 1 = 1 := by decide +kernel
theorem d_L_heat_31 : dJ prog_2_method_6_code 31 (.goto 4) 4 34 35 := by decide +kernel
theorem d_L_heat_34 : dI prog_2_method_6_code 34 (.iconst 2) 1 35 ∧ Int32.ofInt 2 = 2 := by decide +kernel
theorem d_L_heat_35 : decode prog_2_method_6_code 35 = .ok (.ireturn, 1) := by decide +kernel
theorem d_L_weight_0 : dI prog_2_method_7_code 0 (.aload_n 0) 1 1 := by decide +kernel
theorem d_L_weight_1 : dI prog_2_method_7_code 1 (.getfield 9) 3 4 := by decide +kernel
theorem d_L_weight_4 : dI prog_2_method_7_code 4 (.iconst 2) 1 5 ∧ Int32.ofInt 2 = 2 := by decide +kernel
theorem d_L_weight_5 : dI prog_2_method_7_code 5 .iaload 1 6 := by decide +kernel
theorem d_L_weight_6 : dI prog_2_method_7_code 6 (.aload_n 0) 1 7 := by decide +kernel
theorem d_L_weight_7 : dI prog_2_method_7_code 7 (.getfield 9) 3 10 := by decide +kernel
theorem d_L_weight_10 : dI prog_2_method_7_code 10 (.iconst 1) 1 11 ∧ Int32.ofInt 1 = 1 := by decide +kernel
theorem d_L_weight_11 : dI prog_2_method_7_code 11 .iaload 1 12 := by decide +kernel
theorem d_L_weight_12 : dI prog_2_method_7_code 12 (.invokestatic 32) 3 15 := by decide +kernel
theorem d_L_weight_15 : decode prog_2_method_7_code 15 = .ok (.ireturn, 1) := by decide +kernel
theorem d_L_gripOf_0 : dI prog_2_method_8_code 0 (.aload_n 0) 1 1 := by decide +kernel
theorem d_L_gripOf_1 : dI prog_2_method_8_code 1 (.invokevirtual 28) 3 4 := by decide +kernel
theorem d_L_gripOf_4 : dI prog_2_method_8_code 4 (.istore_n 3) 1 5 := by decide +kernel
theorem d_L_gripOf_5 : dI prog_2_method_8_code 5 (.iload_n 3) 1 6 := by decide +kernel
theorem d_L_gripOf_6 : dI prog_2_method_8_code 6 (.iconst 4) 1 7 ∧ Int32.ofInt 4 = 4 := by decide +kernel
theorem d_L_gripOf_7 : dJ prog_2_method_8_code 7 (.if_icmp .lt 14) 14 10 21 := by decide +kernel
theorem d_L_gripOf_10 : dI prog_2_method_8_code 10 (.iload_n 3) 1 11 := by decide +kernel
theorem d_L_gripOf_11 : dI prog_2_method_8_code 11 (.bipush 7) 2 13 ∧ (Int8.ofInt 7).toInt32 = 7 := by decide +kernel
theorem d_L_gripOf_13 : dJ prog_2_method_8_code 13 (.if_icmp .gt 8) 8 16 21 := by decide +kernel
theorem d_L_gripOf_16 : dI prog_2_method_8_code 16 (.bipush 20) 2 18 ∧ (Int8.ofInt 20).toInt32 = 20 := by decide +kernel
theorem d_L_gripOf_18 : dJ prog_2_method_8_code 18 (.goto 4) 4 21 22 := by decide +kernel
theorem d_L_gripOf_21 : dI prog_2_method_8_code 21 (.iconst 0) 1 22 ∧ Int32.ofInt 0 = 0 := by decide +kernel
theorem d_L_gripOf_22 : dI prog_2_method_8_code 22 (.istore 4) 2 24 := by decide +kernel
theorem d_L_gripOf_24 : dI prog_2_method_8_code 24 (.iload_n 1) 1 25 := by decide +kernel
theorem d_L_gripOf_25 : dI prog_2_method_8_code 25 (.iconst 3) 1 26 ∧ Int32.ofInt 3 = 3 := by decide +kernel
theorem d_L_gripOf_26 : dI prog_2_method_8_code 26 (.iload_n 2) 1 27 := by decide +kernel
theorem d_L_gripOf_27 : dI prog_2_method_8_code 27 .imul 1 28 := by decide +kernel
theorem d_L_gripOf_28 : dI prog_2_method_8_code 28 .iadd 1 29 := by decide +kernel
theorem d_L_gripOf_29 : dI prog_2_method_8_code 29 (.iload 4) 2 31 := by decide +kernel
theorem d_L_gripOf_31 : dI prog_2_method_8_code 31 .iadd 1 32 := by decide +kernel
theorem d_L_gripOf_32 : decode prog_2_method_8_code 32 = .ok (.ireturn, 1) := by decide +kernel
theorem d_L_minutesOf_0 : dI prog_2_method_9_code 0 (.iload_n 1) 1 1 := by decide +kernel
theorem d_L_minutesOf_1 : decode prog_2_method_9_code 1 = .ok (.tableswitch 78 1 7 #[43, 46, 52, 55, 49, 78, 58], 43) := by decide +kernel
theorem d_L_minutesOf_44 : dI prog_2_method_9_code 44 (.bipush 30) 2 46 ∧ (Int8.ofInt 30).toInt32 = 30 := by decide +kernel
theorem d_L_minutesOf_46 : decode prog_2_method_9_code 46 = .ok (.ireturn, 1) := by decide +kernel
theorem d_L_minutesOf_47 : dI prog_2_method_9_code 47 (.bipush 45) 2 49 ∧ (Int8.ofInt 45).toInt32 = 45 := by decide +kernel
theorem d_L_minutesOf_49 : decode prog_2_method_9_code 49 = .ok (.ireturn, 1) := by decide +kernel
theorem d_L_minutesOf_50 : dI prog_2_method_9_code 50 (.bipush 105) 2 52 ∧ (Int8.ofInt 105).toInt32 = 105 := by decide +kernel
theorem d_L_minutesOf_52 : decode prog_2_method_9_code 52 = .ok (.ireturn, 1) := by decide +kernel
theorem d_L_minutesOf_53 : dI prog_2_method_9_code 53 (.bipush 40) 2 55 ∧ (Int8.ofInt 40).toInt32 = 40 := by decide +kernel
theorem d_L_minutesOf_55 : decode prog_2_method_9_code 55 = .ok (.ireturn, 1) := by decide +kernel
theorem d_L_minutesOf_56 : dI prog_2_method_9_code 56 (.bipush 10) 2 58 ∧ (Int8.ofInt 10).toInt32 = 10 := by decide +kernel
theorem d_L_minutesOf_58 : decode prog_2_method_9_code 58 = .ok (.ireturn, 1) := by decide +kernel
theorem d_L_minutesOf_59 : dI prog_2_method_9_code 59 (.sipush 1440) 3 62 ∧ (Int16.ofInt 1440).toInt32 = 1440 := by decide +kernel
theorem d_L_minutesOf_62 : dI prog_2_method_9_code 62 (.sipush 600) 3 65 ∧ (Int16.ofInt 600).toInt32 = 600 := by decide +kernel
theorem d_L_minutesOf_65 : dI prog_2_method_9_code 65 (.aload_n 0) 1 66 := by decide +kernel
theorem d_L_minutesOf_66 : dI prog_2_method_9_code 66 (.getfield 9) 3 69 := by decide +kernel
theorem d_L_minutesOf_69 : dI prog_2_method_9_code 69 (.bipush 7) 2 71 ∧ (Int8.ofInt 7).toInt32 = 7 := by decide +kernel
theorem d_L_minutesOf_71 : dI prog_2_method_9_code 71 .iaload 1 72 := by decide +kernel
theorem d_L_minutesOf_72 : dI prog_2_method_9_code 72 .iadd 1 73 := by decide +kernel
theorem d_L_minutesOf_73 : dI prog_2_method_9_code 73 (.sipush 1440) 3 76 ∧ (Int16.ofInt 1440).toInt32 = 1440 := by decide +kernel
theorem d_L_minutesOf_76 : dI prog_2_method_9_code 76 .irem 1 77 := by decide +kernel
theorem d_L_minutesOf_77 : dI prog_2_method_9_code 77 .isub 1 78 := by decide +kernel
theorem d_L_minutesOf_78 : decode prog_2_method_9_code 78 = .ok (.ireturn, 1) := by decide +kernel
theorem d_L_minutesOf_79 : dI prog_2_method_9_code 79 (.iconst 1) 1 80 ∧ Int32.ofInt 1 = 1 := by decide +kernel
theorem d_L_minutesOf_80 : decode prog_2_method_9_code 80 = .ok (.ireturn, 1) := by decide +kernel
theorem d_L_drinkOf_0 : dI prog_2_method_10_code 0 (.aload_n 0) 1 1 := by decide +kernel
theorem d_L_drinkOf_1 : dI prog_2_method_10_code 1 (.getfield 9) 3 4 := by decide +kernel
theorem d_L_drinkOf_4 : dI prog_2_method_10_code 4 (.iconst 5) 1 5 ∧ Int32.ofInt 5 = 5 := by decide +kernel
theorem d_L_drinkOf_5 : dI prog_2_method_10_code 5 .iaload 1 6 := by decide +kernel
theorem d_L_drinkOf_6 : dI prog_2_method_10_code 6 (.iload_n 1) 1 7 := by decide +kernel
theorem d_L_drinkOf_7 : dI prog_2_method_10_code 7 (.invokestatic 36) 3 10 := by decide +kernel
theorem d_L_drinkOf_10 : dI prog_2_method_10_code 10 (.iconst 1) 1 11 ∧ Int32.ofInt 1 = 1 := by decide +kernel
theorem d_L_drinkOf_11 : dI prog_2_method_10_code 11 .iadd 1 12 := by decide +kernel
theorem d_L_drinkOf_12 : dI prog_2_method_10_code 12 .imul 1 13 := by decide +kernel
theorem d_L_drinkOf_13 : dI prog_2_method_10_code 13 (.aload_n 0) 1 14 := by decide +kernel
theorem d_L_drinkOf_14 : dI prog_2_method_10_code 14 (.invokevirtual 40) 3 17 := by decide +kernel
theorem d_L_drinkOf_17 : dI prog_2_method_10_code 17 .imul 1 18 := by decide +kernel
theorem d_L_drinkOf_18 : dI prog_2_method_10_code 18 (.aload_n 0) 1 19 := by decide +kernel
theorem d_L_drinkOf_19 : dI prog_2_method_10_code 19 (.iload_n 1) 1 20 := by decide +kernel
theorem d_L_drinkOf_20 : dI prog_2_method_10_code 20 (.invokevirtual 43) 3 23 := by decide +kernel
theorem d_L_drinkOf_23 : dI prog_2_method_10_code 23 .imul 1 24 := by decide +kernel
theorem d_L_drinkOf_24 : dI prog_2_method_10_code 24 (.bipush 60) 2 26 ∧ (Int8.ofInt 60).toInt32 = 60 := by decide +kernel
theorem d_L_drinkOf_26 : dI prog_2_method_10_code 26 .idiv 1 27 := by decide +kernel
theorem d_L_drinkOf_27 : decode prog_2_method_10_code 27 = .ok (.ireturn, 1) := by decide +kernel
theorem d_L_passHours_0 : dI prog_2_method_11_code 0 (.iload_n 1) 1 1 := by decide +kernel
theorem d_L_passHours_1 : dJ prog_2_method_11_code 1 (.ifCond .le 25) 25 4 26 := by decide +kernel
theorem d_L_passHours_4 : dI prog_2_method_11_code 4 (.aload_n 0) 1 5 := by decide +kernel
theorem d_L_passHours_5 : dI prog_2_method_11_code 5 (.getfield 9) 3 8 := by decide +kernel
theorem d_L_passHours_8 : dI prog_2_method_11_code 8 (.bipush 7) 2 10 ∧ (Int8.ofInt 7).toInt32 = 7 := by decide +kernel
theorem d_L_passHours_10 : dI prog_2_method_11_code 10 (.aload_n 0) 1 11 := by decide +kernel
theorem d_L_passHours_11 : dI prog_2_method_11_code 11 (.getfield 9) 3 14 := by decide +kernel
theorem d_L_passHours_14 : dI prog_2_method_11_code 14 (.bipush 7) 2 16 ∧ (Int8.ofInt 7).toInt32 = 7 := by decide +kernel
theorem d_L_passHours_16 : dI prog_2_method_11_code 16 .iaload 1 17 := by decide +kernel
theorem d_L_passHours_17 : dI prog_2_method_11_code 17 (.bipush 60) 2 19 ∧ (Int8.ofInt 60).toInt32 = 60 := by decide +kernel
theorem d_L_passHours_19 : dI prog_2_method_11_code 19 .idiv 1 20 := by decide +kernel
theorem d_L_passHours_20 : dI prog_2_method_11_code 20 (.iload_n 1) 1 21 := by decide +kernel
theorem d_L_passHours_21 : dI prog_2_method_11_code 21 .iadd 1 22 := by decide +kernel
theorem d_L_passHours_22 : dI prog_2_method_11_code 22 (.bipush 60) 2 24 ∧ (Int8.ofInt 60).toInt32 = 60 := by decide +kernel
theorem d_L_passHours_24 : dI prog_2_method_11_code 24 .imul 1 25 := by decide +kernel
theorem d_L_passHours_25 : dI prog_2_method_11_code 25 .iastore 1 26 := by decide +kernel
theorem d_L_passHours_26 : decode prog_2_method_11_code 26 = .ok (.return_, 1) := by decide +kernel
theorem d_L_carriesOut_0 : dI prog_2_method_12_code 0 (.aload_n 0) 1 1 := by decide +kernel
theorem d_L_carriesOut_1 : dI prog_2_method_12_code 1 (.iload_n 1) 1 2 := by decide +kernel
theorem d_L_carriesOut_2 : dI prog_2_method_12_code 2 (.invokevirtual 46) 3 5 := by decide +kernel
theorem d_L_carriesOut_5 : dI prog_2_method_12_code 5 (.istore_n 2) 1 6 := by decide +kernel
theorem d_L_carriesOut_6 : dI prog_2_method_12_code 6 (.aload_n 0) 1 7 := by decide +kernel
theorem d_L_carriesOut_7 : dI prog_2_method_12_code 7 (.invokevirtual 49) 3 10 := by decide +kernel
theorem d_L_carriesOut_10 : dJ prog_2_method_12_code 10 (.ifCond .ne 14) 14 13 24 := by decide +kernel
theorem d_L_carriesOut_13 : dI prog_2_method_12_code 13 (.aload_n 0) 1 14 := by decide +kernel
theorem d_L_carriesOut_14 : dI prog_2_method_12_code 14 (.getfield 9) 3 17 := by decide +kernel
theorem d_L_carriesOut_17 : dI prog_2_method_12_code 17 (.bipush 6) 2 19 ∧ (Int8.ofInt 6).toInt32 = 6 := by decide +kernel
theorem d_L_carriesOut_19 : dI prog_2_method_12_code 19 .iaload 1 20 := by decide +kernel
theorem d_L_carriesOut_20 : dI prog_2_method_12_code 20 (.iload_n 2) 1 21 := by decide +kernel
theorem d_L_carriesOut_21 : dJ prog_2_method_12_code 21 (.if_icmp .ge 5) 5 24 26 := by decide +kernel
theorem d_L_carriesOut_24 : dI prog_2_method_12_code 24 (.iconst 0) 1 25 ∧ Int32.ofInt 0 = 0 := by decide +kernel
theorem d_L_carriesOut_25 : decode prog_2_method_12_code 25 = .ok (.ireturn, 1) := by decide +kernel
theorem d_L_carriesOut_26 : dI prog_2_method_12_code 26 (.aload_n 0) 1 27 := by decide +kernel
theorem d_L_carriesOut_27 : dI prog_2_method_12_code 27 (.getfield 9) 3 30 := by decide +kernel
theorem d_L_carriesOut_30 : dI prog_2_method_12_code 30 (.bipush 7) 2 32 ∧ (Int8.ofInt 7).toInt32 = 7 := by decide +kernel
theorem d_L_carriesOut_32 : dI prog_2_method_12_code 32 .dup2 1 33 := by decide +kernel
theorem d_L_carriesOut_33 : dI prog_2_method_12_code 33 .iaload 1 34 := by decide +kernel
theorem d_L_carriesOut_34 : dI prog_2_method_12_code 34 (.aload_n 0) 1 35 := by decide +kernel
theorem d_L_carriesOut_35 : dI prog_2_method_12_code 35 (.iload_n 1) 1 36 := by decide +kernel
theorem d_L_carriesOut_36 : dI prog_2_method_12_code 36 (.invokevirtual 43) 3 39 := by decide +kernel
theorem d_L_carriesOut_39 : dI prog_2_method_12_code 39 .iadd 1 40 := by decide +kernel
theorem d_L_carriesOut_40 : dI prog_2_method_12_code 40 .iastore 1 41 := by decide +kernel
theorem d_L_carriesOut_41 : dI prog_2_method_12_code 41 (.aload_n 0) 1 42 := by decide +kernel
theorem d_L_carriesOut_42 : dI prog_2_method_12_code 42 (.getfield 9) 3 45 := by decide +kernel
theorem d_L_carriesOut_45 : dI prog_2_method_12_code 45 (.bipush 6) 2 47 ∧ (Int8.ofInt 6).toInt32 = 6 := by decide +kernel
theorem d_L_carriesOut_47 : dI prog_2_method_12_code 47 .dup2 1 48 := by decide +kernel
theorem d_L_carriesOut_48 : dI prog_2_method_12_code 48 .iaload 1 49 := by decide +kernel
theorem d_L_carriesOut_49 : dI prog_2_method_12_code 49 (.iload_n 2) 1 50 := by decide +kernel
theorem d_L_carriesOut_50 : dI prog_2_method_12_code 50 .isub 1 51 := by decide +kernel
theorem d_L_carriesOut_51 : dI prog_2_method_12_code 51 .iastore 1 52 := by decide +kernel
theorem d_L_carriesOut_52 : dI prog_2_method_12_code 52 (.aload_n 0) 1 53 := by decide +kernel
theorem d_L_carriesOut_53 : dI prog_2_method_12_code 53 (.getfield 9) 3 56 := by decide +kernel
theorem d_L_carriesOut_56 : dI prog_2_method_12_code 56 (.bipush 8) 2 58 ∧ (Int8.ofInt 8).toInt32 = 8 := by decide +kernel
theorem d_L_carriesOut_58 : dI prog_2_method_12_code 58 .dup2 1 59 := by decide +kernel
theorem d_L_carriesOut_59 : dI prog_2_method_12_code 59 .iaload 1 60 := by decide +kernel
theorem d_L_carriesOut_60 : dI prog_2_method_12_code 60 (.iload_n 2) 1 61 := by decide +kernel
theorem d_L_carriesOut_61 : dI prog_2_method_12_code 61 .iadd 1 62 := by decide +kernel
theorem d_L_carriesOut_62 : dI prog_2_method_12_code 62 .iastore 1 63 := by decide +kernel
theorem d_L_carriesOut_63 : dI prog_2_method_12_code 63 (.iload_n 1) 1 64 := by decide +kernel
theorem d_L_carriesOut_64 : dI prog_2_method_12_code 64 (.iconst 1) 1 65 ∧ Int32.ofInt 1 = 1 := by decide +kernel
theorem d_L_carriesOut_65 : dI prog_2_method_12_code 65 (.invokestatic 53) 3 68 := by decide +kernel
theorem d_L_carriesOut_68 : dJ prog_2_method_12_code 68 (.ifCond .eq 29) 29 71 97 := by decide +kernel
theorem d_L_carriesOut_71 : dI prog_2_method_12_code 71 (.aload_n 0) 1 72 := by decide +kernel
theorem d_L_carriesOut_72 : dI prog_2_method_12_code 72 (.getfield 9) 3 75 := by decide +kernel
theorem d_L_carriesOut_75 : dI prog_2_method_12_code 75 (.iconst 1) 1 76 ∧ Int32.ofInt 1 = 1 := by decide +kernel
theorem d_L_carriesOut_76 : dI prog_2_method_12_code 76 (.iconst 0) 1 77 ∧ Int32.ofInt 0 = 0 := by decide +kernel
theorem d_L_carriesOut_77 : dI prog_2_method_12_code 77 (.aload_n 0) 1 78 := by decide +kernel
theorem d_L_carriesOut_78 : dI prog_2_method_12_code 78 (.getfield 9) 3 81 := by decide +kernel
theorem d_L_carriesOut_81 : dI prog_2_method_12_code 81 (.iconst 1) 1 82 ∧ Int32.ofInt 1 = 1 := by decide +kernel
theorem d_L_carriesOut_82 : dI prog_2_method_12_code 82 .iaload 1 83 := by decide +kernel
theorem d_L_carriesOut_83 : dI prog_2_method_12_code 83 (.bipush 10) 2 85 ∧ (Int8.ofInt 10).toInt32 = 10 := by decide +kernel
theorem d_L_carriesOut_85 : dI prog_2_method_12_code 85 (.aload_n 0) 1 86 := by decide +kernel
theorem d_L_carriesOut_86 : dI prog_2_method_12_code 86 (.getfield 9) 3 89 := by decide +kernel
theorem d_L_carriesOut_89 : dI prog_2_method_12_code 89 (.iconst 5) 1 90 ∧ Int32.ofInt 5 = 5 := by decide +kernel
theorem d_L_carriesOut_90 : dI prog_2_method_12_code 90 .iaload 1 91 := by decide +kernel
theorem d_L_carriesOut_91 : dI prog_2_method_12_code 91 .imul 1 92 := by decide +kernel
theorem d_L_carriesOut_92 : dI prog_2_method_12_code 92 .isub 1 93 := by decide +kernel
theorem d_L_carriesOut_93 : dI prog_2_method_12_code 93 (.invokestatic 57) 3 96 := by decide +kernel
theorem d_L_carriesOut_96 : dI prog_2_method_12_code 96 .iastore 1 97 := by decide +kernel
theorem d_L_carriesOut_97 : dI prog_2_method_12_code 97 (.iload_n 1) 1 98 := by decide +kernel
theorem d_L_carriesOut_98 : dI prog_2_method_12_code 98 (.iconst 3) 1 99 ∧ Int32.ofInt 3 = 3 := by decide +kernel
theorem d_L_carriesOut_99 : dJ prog_2_method_12_code 99 (.if_icmp .ne 22) 22 102 121 := by decide +kernel
theorem d_L_carriesOut_102 : dI prog_2_method_12_code 102 (.aload_n 0) 1 103 := by decide +kernel
theorem d_L_carriesOut_103 : dI prog_2_method_12_code 103 (.getfield 9) 3 106 := by decide +kernel
theorem d_L_carriesOut_106 : dI prog_2_method_12_code 106 (.iconst 2) 1 107 ∧ Int32.ofInt 2 = 2 := by decide +kernel
theorem d_L_carriesOut_107 : dI prog_2_method_12_code 107 (.iconst 0) 1 108 ∧ Int32.ofInt 0 = 0 := by decide +kernel
theorem d_L_carriesOut_108 : dI prog_2_method_12_code 108 (.aload_n 0) 1 109 := by decide +kernel
theorem d_L_carriesOut_109 : dI prog_2_method_12_code 109 (.getfield 9) 3 112 := by decide +kernel
theorem d_L_carriesOut_112 : dI prog_2_method_12_code 112 (.iconst 2) 1 113 ∧ Int32.ofInt 2 = 2 := by decide +kernel
theorem d_L_carriesOut_113 : dI prog_2_method_12_code 113 .iaload 1 114 := by decide +kernel
theorem d_L_carriesOut_114 : dI prog_2_method_12_code 114 (.bipush 10) 2 116 ∧ (Int8.ofInt 10).toInt32 = 10 := by decide +kernel
theorem d_L_carriesOut_116 : dI prog_2_method_12_code 116 .isub 1 117 := by decide +kernel
theorem d_L_carriesOut_117 : dI prog_2_method_12_code 117 (.invokestatic 57) 3 120 := by decide +kernel
theorem d_L_carriesOut_120 : dI prog_2_method_12_code 120 .iastore 1 121 := by decide +kernel
theorem d_L_carriesOut_121 : dI prog_2_method_12_code 121 (.iload_n 1) 1 122 := by decide +kernel
theorem d_L_carriesOut_122 : dI prog_2_method_12_code 122 (.iconst 4) 1 123 ∧ Int32.ofInt 4 = 4 := by decide +kernel
theorem d_L_carriesOut_123 : dJ prog_2_method_12_code 123 (.if_icmp .ne 22) 22 126 145 := by decide +kernel
theorem d_L_carriesOut_126 : dI prog_2_method_12_code 126 (.aload_n 0) 1 127 := by decide +kernel
theorem d_L_carriesOut_127 : dI prog_2_method_12_code 127 (.getfield 9) 3 130 := by decide +kernel
theorem d_L_carriesOut_130 : dI prog_2_method_12_code 130 (.iconst 3) 1 131 ∧ Int32.ofInt 3 = 3 := by decide +kernel
theorem d_L_carriesOut_131 : dI prog_2_method_12_code 131 (.bipush 9) 2 133 ∧ (Int8.ofInt 9).toInt32 = 9 := by decide +kernel
theorem d_L_carriesOut_133 : dI prog_2_method_12_code 133 (.aload_n 0) 1 134 := by decide +kernel
theorem d_L_carriesOut_134 : dI prog_2_method_12_code 134 (.getfield 9) 3 137 := by decide +kernel
theorem d_L_carriesOut_137 : dI prog_2_method_12_code 137 (.iconst 3) 1 138 ∧ Int32.ofInt 3 = 3 := by decide +kernel
theorem d_L_carriesOut_138 : dI prog_2_method_12_code 138 .iaload 1 139 := by decide +kernel
theorem d_L_carriesOut_139 : dI prog_2_method_12_code 139 (.iconst 3) 1 140 ∧ Int32.ofInt 3 = 3 := by decide +kernel
theorem d_L_carriesOut_140 : dI prog_2_method_12_code 140 .iadd 1 141 := by decide +kernel
theorem d_L_carriesOut_141 : dI prog_2_method_12_code 141 (.invokestatic 62) 3 144 := by decide +kernel
theorem d_L_carriesOut_144 : dI prog_2_method_12_code 144 .iastore 1 145 := by decide +kernel
theorem d_L_carriesOut_145 : dI prog_2_method_12_code 145 (.iload_n 1) 1 146 := by decide +kernel
theorem d_L_carriesOut_146 : dI prog_2_method_12_code 146 (.bipush 7) 2 148 ∧ (Int8.ofInt 7).toInt32 = 7 := by decide +kernel
theorem d_L_carriesOut_148 : dJ prog_2_method_12_code 148 (.if_icmp .eq 8) 8 151 156 := by decide +kernel
theorem d_L_carriesOut_151 : dI prog_2_method_12_code 151 (.aload_n 0) 1 152 := by decide +kernel
theorem d_L_carriesOut_152 : dI prog_2_method_12_code 152 (.iload_n 1) 1 153 := by decide +kernel
theorem d_L_carriesOut_153 : dI prog_2_method_12_code 153 (.invokevirtual 65) 3 156 := by decide +kernel
theorem d_L_carriesOut_156 : dI prog_2_method_12_code 156 (.iconst 1) 1 157 ∧ Int32.ofInt 1 = 1 := by decide +kernel
theorem d_L_carriesOut_157 : decode prog_2_method_12_code 157 = .ok (.ireturn, 1) := by decide +kernel
theorem d_L_drive_0 : dI prog_2_method_13_code 0 (.iload_n 1) 1 1 := by decide +kernel
theorem d_L_drive_1 : dI prog_2_method_13_code 1 (.iconst 2) 1 2 ∧ Int32.ofInt 2 = 2 := by decide +kernel
theorem d_L_drive_2 : dI prog_2_method_13_code 2 (.invokestatic 53) 3 5 := by decide +kernel
theorem d_L_drive_5 : dJ prog_2_method_13_code 5 (.ifCond .eq 12) 12 8 17 := by decide +kernel
theorem d_L_drive_8 : dI prog_2_method_13_code 8 (.aload_n 0) 1 9 := by decide +kernel
theorem d_L_drive_9 : dI prog_2_method_13_code 9 (.getfield 9) 3 12 := by decide +kernel
theorem d_L_drive_12 : dI prog_2_method_13_code 12 (.iconst 4) 1 13 ∧ Int32.ofInt 4 = 4 := by decide +kernel
theorem d_L_drive_13 : dI prog_2_method_13_code 13 .iaload 1 14 := by decide +kernel
theorem d_L_drive_14 : dJ prog_2_method_13_code 14 (.goto 4) 4 17 18 := by decide +kernel
theorem d_L_drive_17 : dI prog_2_method_13_code 17 (.iconst 0) 1 18 ∧ Int32.ofInt 0 = 0 := by decide +kernel
theorem d_L_drive_18 : dI prog_2_method_13_code 18 (.istore_n 2) 1 19 := by decide +kernel
theorem d_L_drive_19 : dI prog_2_method_13_code 19 (.iload_n 2) 1 20 := by decide +kernel
theorem d_L_drive_20 : dJ prog_2_method_13_code 20 (.ifCond .le 14) 14 23 34 := by decide +kernel
theorem d_L_drive_23 : dI prog_2_method_13_code 23 (.aload_n 0) 1 24 := by decide +kernel
theorem d_L_drive_24 : dI prog_2_method_13_code 24 (.getfield 9) 3 27 := by decide +kernel
theorem d_L_drive_27 : dI prog_2_method_13_code 27 (.iconst 0) 1 28 ∧ Int32.ofInt 0 = 0 := by decide +kernel
theorem d_L_drive_28 : dI prog_2_method_13_code 28 .iaload 1 29 := by decide +kernel
theorem d_L_drive_29 : dI prog_2_method_13_code 29 (.iload_n 2) 1 30 := by decide +kernel
theorem d_L_drive_30 : dI prog_2_method_13_code 30 .iadd 1 31 := by decide +kernel
theorem d_L_drive_31 : dJ prog_2_method_13_code 31 (.goto 4) 4 34 35 := by decide +kernel
theorem d_L_drive_34 : dI prog_2_method_13_code 34 (.iconst 0) 1 35 ∧ Int32.ofInt 0 = 0 := by decide +kernel
theorem d_L_drive_35 : dI prog_2_method_13_code 35 (.istore_n 3) 1 36 := by decide +kernel
theorem d_L_drive_36 : dI prog_2_method_13_code 36 (.iload_n 1) 1 37 := by decide +kernel
theorem d_L_drive_37 : dI prog_2_method_13_code 37 (.iconst 5) 1 38 ∧ Int32.ofInt 5 = 5 := by decide +kernel
theorem d_L_drive_38 : dJ prog_2_method_13_code 38 (.if_icmp .ne 8) 8 41 46 := by decide +kernel
theorem d_L_drive_41 : dI prog_2_method_13_code 41 (.bipush 15) 2 43 ∧ (Int8.ofInt 15).toInt32 = 15 := by decide +kernel
theorem d_L_drive_43 : dJ prog_2_method_13_code 43 (.goto 4) 4 46 47 := by decide +kernel
theorem d_L_drive_46 : dI prog_2_method_13_code 46 (.iconst 0) 1 47 ∧ Int32.ofInt 0 = 0 := by decide +kernel
theorem d_L_drive_47 : dI prog_2_method_13_code 47 (.istore 4) 2 49 := by decide +kernel
theorem d_L_drive_49 : dI prog_2_method_13_code 49 (.iload_n 1) 1 50 := by decide +kernel
theorem d_L_drive_50 : dI prog_2_method_13_code 50 (.bipush 6) 2 52 ∧ (Int8.ofInt 6).toInt32 = 6 := by decide +kernel
theorem d_L_drive_52 : dJ prog_2_method_13_code 52 (.if_icmp .ne 7) 7 55 59 := by decide +kernel
theorem d_L_drive_55 : dI prog_2_method_13_code 55 (.iconst (-1)) 1 56 ∧ Int32.ofInt (-1) = (-1) := by decide +kernel
theorem d_L_drive_56 : dJ prog_2_method_13_code 56 (.goto 4) 4 59 60 := by decide +kernel
theorem d_L_drive_59 : dI prog_2_method_13_code 59 (.iconst 1) 1 60 ∧ Int32.ofInt 1 = 1 := by decide +kernel
theorem d_L_drive_60 : dI prog_2_method_13_code 60 (.istore 5) 2 62 := by decide +kernel
theorem d_L_drive_62 : dI prog_2_method_13_code 62 (.iconst 3) 1 63 ∧ Int32.ofInt 3 = 3 := by decide +kernel
theorem d_L_drive_63 : dI prog_2_method_13_code 63 (.iload_n 2) 1 64 := by decide +kernel
theorem d_L_drive_64 : dI prog_2_method_13_code 64 (.iconst 1) 1 65 ∧ Int32.ofInt 1 = 1 := by decide +kernel
theorem d_L_drive_65 : dI prog_2_method_13_code 65 .iadd 1 66 := by decide +kernel
theorem d_L_drive_66 : dI prog_2_method_13_code 66 (.invokestatic 57) 3 69 := by decide +kernel
theorem d_L_drive_69 : dI prog_2_method_13_code 69 (.istore 6) 2 71 := by decide +kernel
theorem d_L_drive_71 : dI prog_2_method_13_code 71 (.iconst 1) 1 72 ∧ Int32.ofInt 1 = 1 := by decide +kernel
theorem d_L_drive_72 : dI prog_2_method_13_code 72 (.istore 7) 2 74 := by decide +kernel
theorem d_L_drive_74 : dI prog_2_method_13_code 74 (.iconst 0) 1 75 ∧ Int32.ofInt 0 = 0 := by decide +kernel
theorem d_L_drive_75 : dI prog_2_method_13_code 75 (.istore 8) 2 77 := by decide +kernel
theorem d_L_drive_77 : dI prog_2_method_13_code 77 (.iload 8) 2 79 := by decide +kernel
theorem d_L_drive_79 : dI prog_2_method_13_code 79 (.iload 6) 2 81 := by decide +kernel
theorem d_L_drive_81 : dJ prog_2_method_13_code 81 (.if_icmp .ge 25) 25 84 106 := by decide +kernel
theorem d_L_drive_84 : dI prog_2_method_13_code 84 (.iload 7) 2 86 := by decide +kernel
theorem d_L_drive_86 : dJ prog_2_method_13_code 86 (.ifCond .eq 20) 20 89 106 := by decide +kernel
theorem d_L_drive_89 : dI prog_2_method_13_code 89 (.aload_n 0) 1 90 := by decide +kernel
theorem d_L_drive_90 : dI prog_2_method_13_code 90 (.iload 5) 2 92 := by decide +kernel
theorem d_L_drive_92 : dI prog_2_method_13_code 92 (.iload_n 3) 1 93 := by decide +kernel
theorem d_L_drive_93 : dI prog_2_method_13_code 93 (.iload 4) 2 95 := by decide +kernel
theorem d_L_drive_95 : dI prog_2_method_13_code 95 (.invokevirtual 69) 3 98 := by decide +kernel
theorem d_L_drive_98 : dI prog_2_method_13_code 98 (.istore 7) 2 100 := by decide +kernel
theorem d_L_drive_100 : dI prog_2_method_13_code 100 (.iinc 8 1) 3 103 ∧ Int32.ofInt 1 = 1 := by decide +kernel
theorem d_L_drive_103 : dJ prog_2_method_13_code 103 (.goto (-26)) (-26) 106 77 := by decide +kernel
theorem d_L_drive_106 : decode prog_2_method_13_code 106 = .ok (.return_, 1) := by decide +kernel
theorem d_L_push_0 : dI prog_2_method_14_code 0 (.aload_n 0) 1 1 := by decide +kernel
theorem d_L_push_1 : dI prog_2_method_14_code 1 (.getfield 9) 3 4 := by decide +kernel
theorem d_L_push_4 : dI prog_2_method_14_code 4 (.iconst 0) 1 5 ∧ Int32.ofInt 0 = 0 := by decide +kernel
theorem d_L_push_5 : dI prog_2_method_14_code 5 .iaload 1 6 := by decide +kernel
theorem d_L_push_6 : dI prog_2_method_14_code 6 (.istore 4) 2 8 := by decide +kernel
theorem d_L_push_8 : dI prog_2_method_14_code 8 (.iload 4) 2 10 := by decide +kernel
theorem d_L_push_10 : dI prog_2_method_14_code 10 (.invokestatic 24) 3 13 := by decide +kernel
theorem d_L_push_13 : dJ prog_2_method_14_code 13 (.ifCond .ne 5) 5 16 18 := by decide +kernel
theorem d_L_push_16 : dI prog_2_method_14_code 16 (.iconst 0) 1 17 ∧ Int32.ofInt 0 = 0 := by decide +kernel
theorem d_L_push_17 : decode prog_2_method_14_code 17 = .ok (.ireturn, 1) := by decide +kernel
theorem d_L_push_18 : dI prog_2_method_14_code 18 (.aload_n 0) 1 19 := by decide +kernel
theorem d_L_push_19 : dI prog_2_method_14_code 19 (.getfield 9) 3 22 := by decide +kernel
theorem d_L_push_22 : dI prog_2_method_14_code 22 (.bipush 9) 2 24 ∧ (Int8.ofInt 9).toInt32 = 9 := by decide +kernel
theorem d_L_push_24 : dI prog_2_method_14_code 24 .dup2 1 25 := by decide +kernel
theorem d_L_push_25 : dI prog_2_method_14_code 25 .iaload 1 26 := by decide +kernel
theorem d_L_push_26 : dI prog_2_method_14_code 26 (.iconst 1) 1 27 ∧ Int32.ofInt 1 = 1 := by decide +kernel
theorem d_L_push_27 : dI prog_2_method_14_code 27 .iadd 1 28 := by decide +kernel
theorem d_L_push_28 : dI prog_2_method_14_code 28 .iastore 1 29 := by decide +kernel
theorem d_L_push_29 : dI prog_2_method_14_code 29 (.aload_n 0) 1 30 := by decide +kernel
theorem d_L_push_30 : dI prog_2_method_14_code 30 (.aload_n 0) 1 31 := by decide +kernel
theorem d_L_push_31 : dI prog_2_method_14_code 31 (.getfield 15) 3 34 := by decide +kernel
theorem d_L_push_34 : dI prog_2_method_14_code 34 (.iload 4) 2 36 := by decide +kernel
theorem d_L_push_36 : dI prog_2_method_14_code 36 .iaload 1 37 := by decide +kernel
theorem d_L_push_37 : dI prog_2_method_14_code 37 (.aload_n 0) 1 38 := by decide +kernel
theorem d_L_push_38 : dI prog_2_method_14_code 38 (.getfield 9) 3 41 := by decide +kernel
theorem d_L_push_41 : dI prog_2_method_14_code 41 (.iconst 3) 1 42 ∧ Int32.ofInt 3 = 3 := by decide +kernel
theorem d_L_push_42 : dI prog_2_method_14_code 42 .iaload 1 43 := by decide +kernel
theorem d_L_push_43 : dI prog_2_method_14_code 43 (.invokevirtual 73) 3 46 := by decide +kernel
theorem d_L_push_46 : dI prog_2_method_14_code 46 (.iload 4) 2 48 := by decide +kernel
theorem d_L_push_48 : dI prog_2_method_14_code 48 (.iload_n 2) 1 49 := by decide +kernel
theorem d_L_push_49 : dJ prog_2_method_14_code 49 (.if_icmp .ge 8) 8 52 57 := by decide +kernel
theorem d_L_push_52 : dI prog_2_method_14_code 52 (.bipush 30) 2 54 ∧ (Int8.ofInt 30).toInt32 = 30 := by decide +kernel
theorem d_L_push_54 : dJ prog_2_method_14_code 54 (.goto 4) 4 57 58 := by decide +kernel
theorem d_L_push_57 : dI prog_2_method_14_code 57 (.iconst 0) 1 58 ∧ Int32.ofInt 0 = 0 := by decide +kernel
theorem d_L_push_58 : dI prog_2_method_14_code 58 .iadd 1 59 := by decide +kernel
theorem d_L_push_59 : dI prog_2_method_14_code 59 (.istore 5) 2 61 := by decide +kernel
theorem d_L_push_61 : dI prog_2_method_14_code 61 (.iload 5) 2 63 := by decide +kernel
theorem d_L_push_63 : dI prog_2_method_14_code 63 (.aload_n 0) 1 64 := by decide +kernel
theorem d_L_push_64 : dI prog_2_method_14_code 64 (.invokevirtual 76) 3 67 := by decide +kernel
theorem d_L_push_67 : dI prog_2_method_14_code 67 (.iload_n 3) 1 68 := by decide +kernel
theorem d_L_push_68 : dI prog_2_method_14_code 68 .isub 1 69 := by decide +kernel
theorem d_L_push_69 : dJ prog_2_method_14_code 69 (.if_icmp .ge 24) 24 72 93 := by decide +kernel
theorem d_L_push_72 : dI prog_2_method_14_code 72 (.aload_n 0) 1 73 := by decide +kernel
theorem d_L_push_73 : dI prog_2_method_14_code 73 (.getfield 9) 3 76 := by decide +kernel
theorem d_L_push_76 : dI prog_2_method_14_code 76 (.iconst 1) 1 77 ∧ Int32.ofInt 1 = 1 := by decide +kernel
theorem d_L_push_77 : dI prog_2_method_14_code 77 (.bipush 99) 2 79 ∧ (Int8.ofInt 99).toInt32 = 99 := by decide +kernel
theorem d_L_push_79 : dI prog_2_method_14_code 79 (.aload_n 0) 1 80 := by decide +kernel
theorem d_L_push_80 : dI prog_2_method_14_code 80 (.getfield 9) 3 83 := by decide +kernel
theorem d_L_push_83 : dI prog_2_method_14_code 83 (.iconst 1) 1 84 ∧ Int32.ofInt 1 = 1 := by decide +kernel
theorem d_L_push_84 : dI prog_2_method_14_code 84 .iaload 1 85 := by decide +kernel
theorem d_L_push_85 : dI prog_2_method_14_code 85 (.iconst 4) 1 86 ∧ Int32.ofInt 4 = 4 := by decide +kernel
theorem d_L_push_86 : dI prog_2_method_14_code 86 .iadd 1 87 := by decide +kernel
theorem d_L_push_87 : dI prog_2_method_14_code 87 (.invokestatic 62) 3 90 := by decide +kernel
theorem d_L_push_90 : dI prog_2_method_14_code 90 .iastore 1 91 := by decide +kernel
theorem d_L_push_91 : dI prog_2_method_14_code 91 (.iconst 0) 1 92 ∧ Int32.ofInt 0 = 0 := by decide +kernel
theorem d_L_push_92 : decode prog_2_method_14_code 92 = .ok (.ireturn, 1) := by decide +kernel
theorem d_L_push_93 : dI prog_2_method_14_code 93 (.aload_n 0) 1 94 := by decide +kernel
theorem d_L_push_94 : dI prog_2_method_14_code 94 (.getfield 9) 3 97 := by decide +kernel
theorem d_L_push_97 : dI prog_2_method_14_code 97 (.iconst 0) 1 98 ∧ Int32.ofInt 0 = 0 := by decide +kernel
theorem d_L_push_98 : dI prog_2_method_14_code 98 (.iload 4) 2 100 := by decide +kernel
theorem d_L_push_100 : dI prog_2_method_14_code 100 (.iload_n 1) 1 101 := by decide +kernel
theorem d_L_push_101 : dI prog_2_method_14_code 101 .iadd 1 102 := by decide +kernel
theorem d_L_push_102 : dI prog_2_method_14_code 102 .iastore 1 103 := by decide +kernel
theorem d_L_push_103 : dI prog_2_method_14_code 103 (.aload_n 0) 1 104 := by decide +kernel
theorem d_L_push_104 : dI prog_2_method_14_code 104 (.getfield 9) 3 107 := by decide +kernel
theorem d_L_push_107 : dI prog_2_method_14_code 107 (.iconst 1) 1 108 ∧ Int32.ofInt 1 = 1 := by decide +kernel
theorem d_L_push_108 : dI prog_2_method_14_code 108 (.iconst 0) 1 109 ∧ Int32.ofInt 0 = 0 := by decide +kernel
theorem d_L_push_109 : dI prog_2_method_14_code 109 .iastore 1 110 := by decide +kernel
theorem d_L_push_110 : dI prog_2_method_14_code 110 (.iconst 1) 1 111 ∧ Int32.ofInt 1 = 1 := by decide +kernel
theorem d_L_push_111 : decode prog_2_method_14_code 111 = .ok (.ireturn, 1) := by decide +kernel
theorem d_C_init_0 : dI prog_3_method_1_code 0 (.aload_n 0) 1 1 := by decide +kernel
theorem d_C_init_1 : dI prog_3_method_1_code 1 (.invokespecial 3) 3 4 := by decide +kernel
theorem d_C_init_4 : dI prog_3_method_1_code 4 (.aload_n 0) 1 5 := by decide +kernel
theorem d_C_init_5 : dI prog_3_method_1_code 5 (.new 9) 3 8 := by decide +kernel
theorem d_C_init_8 : dI prog_3_method_1_code 8 .dup 1 9 := by decide +kernel
theorem d_C_init_9 : dI prog_3_method_1_code 9 (.bipush 40) 2 11 ∧ (Int8.ofInt 40).toInt32 = 40 := by decide +kernel
theorem d_C_init_11 : dI prog_3_method_1_code 11 (.newarray .int) 2 13 := by decide +kernel
theorem d_C_init_13 : dI prog_3_method_1_code 13 (.invokespecial 11) 3 16 := by decide +kernel
theorem d_C_init_16 : dI prog_3_method_1_code 16 (.putfield 14) 3 19 := by decide +kernel
theorem d_C_init_19 : dI prog_3_method_1_code 19 (.aload_n 0) 1 20 := by decide +kernel
theorem d_C_init_20 : dI prog_3_method_1_code 20 (.aload_n 0) 1 21 := by decide +kernel
theorem d_C_init_21 : dI prog_3_method_1_code 21 (.getfield 14) 3 24 := by decide +kernel
theorem d_C_init_24 : dI prog_3_method_1_code 24 (.getfield 20) 3 27 := by decide +kernel
theorem d_C_init_27 : dI prog_3_method_1_code 27 (.putfield 24) 3 30 := by decide +kernel
theorem d_C_init_30 : dI prog_3_method_1_code 30 (.aload_n 0) 1 31 := by decide +kernel
theorem d_C_init_31 : dI prog_3_method_1_code 31 (.bipush 10) 2 33 ∧ (Int8.ofInt 10).toInt32 = 10 := by decide +kernel
theorem d_C_init_33 : dI prog_3_method_1_code 33 (.newarray .int) 2 35 := by decide +kernel
theorem d_C_init_35 : dI prog_3_method_1_code 35 (.putfield 25) 3 38 := by decide +kernel
theorem d_C_init_38 : dI prog_3_method_1_code 38 (.aload_n 0) 1 39 := by decide +kernel
theorem d_C_init_39 : dI prog_3_method_1_code 39 (.bipush 10) 2 41 ∧ (Int8.ofInt 10).toInt32 = 10 := by decide +kernel
theorem d_C_init_41 : dI prog_3_method_1_code 41 (.newarray .int) 2 43 := by decide +kernel
theorem d_C_init_43 : dI prog_3_method_1_code 43 (.putfield 28) 3 46 := by decide +kernel
theorem d_C_init_46 : dI prog_3_method_1_code 46 (.aload_n 0) 1 47 := by decide +kernel
theorem d_C_init_47 : dI prog_3_method_1_code 47 (.bipush 20) 2 49 ∧ (Int8.ofInt 20).toInt32 = 20 := by decide +kernel
theorem d_C_init_49 : dI prog_3_method_1_code 49 (.newarray .int) 2 51 := by decide +kernel
theorem d_C_init_51 : dI prog_3_method_1_code 51 (.putfield 31) 3 54 := by decide +kernel
theorem d_C_init_54 : dI prog_3_method_1_code 54 (.aload_n 0) 1 55 := by decide +kernel
theorem d_C_init_55 : dI prog_3_method_1_code 55 (.iconst 1) 1 56 ∧ Int32.ofInt 1 = 1 := by decide +kernel
theorem d_C_init_56 : dI prog_3_method_1_code 56 (.putfield 34) 3 59 := by decide +kernel
theorem d_C_init_59 : dI prog_3_method_1_code 59 (.aload_n 0) 1 60 := by decide +kernel
theorem d_C_init_60 : dI prog_3_method_1_code 60 (.getfield 24) 3 63 := by decide +kernel
theorem d_C_init_63 : dI prog_3_method_1_code 63 (.bipush 50) 2 65 ∧ (Int8.ofInt 50).toInt32 = 50 := by decide +kernel
theorem d_C_init_65 : dI prog_3_method_1_code 65 (.invokestatic 38) 3 68 := by decide +kernel
theorem d_C_init_68 : dI prog_3_method_1_code 68 (.aload_n 0) 1 69 := by decide +kernel
theorem d_C_init_69 : dI prog_3_method_1_code 69 (.getfield 25) 3 72 := by decide +kernel
theorem d_C_init_72 : dI prog_3_method_1_code 72 (.iconst (-1)) 1 73 ∧ Int32.ofInt (-1) = (-1) := by decide +kernel
theorem d_C_init_73 : dI prog_3_method_1_code 73 (.invokestatic 38) 3 76 := by decide +kernel
theorem d_C_init_76 : dI prog_3_method_1_code 76 (.aload_n 0) 1 77 := by decide +kernel
theorem d_C_init_77 : dI prog_3_method_1_code 77 (.getfield 28) 3 80 := by decide +kernel
theorem d_C_init_80 : dI prog_3_method_1_code 80 (.iconst (-1)) 1 81 ∧ Int32.ofInt (-1) = (-1) := by decide +kernel
theorem d_C_init_81 : dI prog_3_method_1_code 81 (.invokestatic 38) 3 84 := by decide +kernel
theorem d_C_init_84 : decode prog_3_method_1_code 84 = .ok (.return_, 1) := by decide +kernel
theorem d_C_become_0 : dI prog_3_method_2_code 0 (.aload_n 1) 1 1 := by decide +kernel
theorem d_C_become_1 : dI prog_3_method_2_code 1 (.getfield 24) 3 4 := by decide +kernel
theorem d_C_become_4 : dI prog_3_method_2_code 4 (.iconst 0) 1 5 ∧ Int32.ofInt 0 = 0 := by decide +kernel
theorem d_C_become_5 : dI prog_3_method_2_code 5 (.aload_n 0) 1 6 := by decide +kernel
theorem d_C_become_6 : dI prog_3_method_2_code 6 (.getfield 24) 3 9 := by decide +kernel
theorem d_C_become_9 : dI prog_3_method_2_code 9 (.iconst 0) 1 10 ∧ Int32.ofInt 0 = 0 := by decide +kernel
theorem d_C_become_10 : dI prog_3_method_2_code 10 (.bipush 40) 2 12 ∧ (Int8.ofInt 40).toInt32 = 40 := by decide +kernel
theorem d_C_become_12 : dI prog_3_method_2_code 12 (.invokestatic 44) 3 15 := by decide +kernel
theorem d_C_become_15 : dI prog_3_method_2_code 15 (.aload_n 0) 1 16 := by decide +kernel
theorem d_C_become_16 : dI prog_3_method_2_code 16 (.getfield 14) 3 19 := by decide +kernel
theorem d_C_become_19 : dI prog_3_method_2_code 19 (.aload_n 1) 1 20 := by decide +kernel
theorem d_C_become_20 : dI prog_3_method_2_code 20 (.getfield 14) 3 23 := by decide +kernel
theorem d_C_become_23 : dI prog_3_method_2_code 23 (.invokevirtual 50) 3 26 := by decide +kernel
theorem d_C_become_26 : dI prog_3_method_2_code 26 (.aload_n 1) 1 27 := by decide +kernel
theorem d_C_become_27 : dI prog_3_method_2_code 27 (.getfield 25) 3 30 := by decide +kernel
theorem d_C_become_30 : dI prog_3_method_2_code 30 (.iconst 0) 1 31 ∧ Int32.ofInt 0 = 0 := by decide +kernel
theorem d_C_become_31 : dI prog_3_method_2_code 31 (.aload_n 0) 1 32 := by decide +kernel
theorem d_C_become_32 : dI prog_3_method_2_code 32 (.getfield 25) 3 35 := by decide +kernel
theorem d_C_become_35 : dI prog_3_method_2_code 35 (.iconst 0) 1 36 ∧ Int32.ofInt 0 = 0 := by decide +kernel
theorem d_C_become_36 : dI prog_3_method_2_code 36 (.bipush 10) 2 38 ∧ (Int8.ofInt 10).toInt32 = 10 := by decide +kernel
theorem d_C_become_38 : dI prog_3_method_2_code 38 (.invokestatic 44) 3 41 := by decide +kernel
theorem d_C_become_41 : dI prog_3_method_2_code 41 (.aload_n 1) 1 42 := by decide +kernel
theorem d_C_become_42 : dI prog_3_method_2_code 42 (.getfield 28) 3 45 := by decide +kernel
theorem d_C_become_45 : dI prog_3_method_2_code 45 (.iconst 0) 1 46 ∧ Int32.ofInt 0 = 0 := by decide +kernel
theorem d_C_become_46 : dI prog_3_method_2_code 46 (.aload_n 0) 1 47 := by decide +kernel
theorem d_C_become_47 : dI prog_3_method_2_code 47 (.getfield 28) 3 50 := by decide +kernel
theorem d_C_become_50 : dI prog_3_method_2_code 50 (.iconst 0) 1 51 ∧ Int32.ofInt 0 = 0 := by decide +kernel
theorem d_C_become_51 : dI prog_3_method_2_code 51 (.bipush 10) 2 53 ∧ (Int8.ofInt 10).toInt32 = 10 := by decide +kernel
theorem d_C_become_53 : dI prog_3_method_2_code 53 (.invokestatic 44) 3 56 := by decide +kernel
theorem d_C_become_56 : dI prog_3_method_2_code 56 (.aload_n 1) 1 57 := by decide +kernel
theorem d_C_become_57 : dI prog_3_method_2_code 57 (.getfield 31) 3 60 := by decide +kernel
theorem d_C_become_60 : dI prog_3_method_2_code 60 (.iconst 0) 1 61 ∧ Int32.ofInt 0 = 0 := by decide +kernel
theorem d_C_become_61 : dI prog_3_method_2_code 61 (.aload_n 0) 1 62 := by decide +kernel
theorem d_C_become_62 : dI prog_3_method_2_code 62 (.getfield 31) 3 65 := by decide +kernel
theorem d_C_become_65 : dI prog_3_method_2_code 65 (.iconst 0) 1 66 ∧ Int32.ofInt 0 = 0 := by decide +kernel
theorem d_C_become_66 : dI prog_3_method_2_code 66 (.bipush 20) 2 68 ∧ (Int8.ofInt 20).toInt32 = 20 := by decide +kernel
theorem d_C_become_68 : dI prog_3_method_2_code 68 (.invokestatic 44) 3 71 := by decide +kernel
theorem d_C_become_71 : dI prog_3_method_2_code 71 (.aload_n 0) 1 72 := by decide +kernel
theorem d_C_become_72 : dI prog_3_method_2_code 72 (.aload_n 1) 1 73 := by decide +kernel
theorem d_C_become_73 : dI prog_3_method_2_code 73 (.getfield 54) 3 76 := by decide +kernel
theorem d_C_become_76 : dI prog_3_method_2_code 76 (.putfield 54) 3 79 := by decide +kernel
theorem d_C_become_79 : dI prog_3_method_2_code 79 (.aload_n 0) 1 80 := by decide +kernel
theorem d_C_become_80 : dI prog_3_method_2_code 80 (.aload_n 1) 1 81 := by decide +kernel
theorem d_C_become_81 : dI prog_3_method_2_code 81 (.getfield 34) 3 84 := by decide +kernel
theorem d_C_become_84 : dI prog_3_method_2_code 84 (.putfield 34) 3 87 := by decide +kernel
theorem d_C_become_87 : decode prog_3_method_2_code 87 = .ok (.return_, 1) := by decide +kernel
theorem d_C_draw_0 : dI prog_3_method_3_code 0 (.aload_n 0) 1 1 := by decide +kernel
theorem d_C_draw_1 : dI prog_3_method_3_code 1 (.aload_n 0) 1 2 := by decide +kernel
theorem d_C_draw_2 : dI prog_3_method_3_code 2 (.getfield 34) 3 5 := by decide +kernel
theorem d_C_draw_5 : dI prog_3_method_3_code 5 (.ldc 57) 2 7 := by decide +kernel
theorem d_C_draw_7 : dI prog_3_method_3_code 7 .imul 1 8 := by decide +kernel
theorem d_C_draw_8 : dI prog_3_method_3_code 8 (.sipush 12345) 3 11 ∧ (Int16.ofInt 12345).toInt32 = 12345 := by decide +kernel
theorem d_C_draw_11 : dI prog_3_method_3_code 11 .iadd 1 12 := by decide +kernel
theorem d_C_draw_12 : dI prog_3_method_3_code 12 (.putfield 34) 3 15 := by decide +kernel
theorem d_C_draw_15 : dI prog_3_method_3_code 15 (.aload_n 0) 1 16 := by decide +kernel
theorem d_C_draw_16 : dI prog_3_method_3_code 16 (.getfield 34) 3 19 := by decide +kernel
theorem d_C_draw_19 : dI prog_3_method_3_code 19 (.bipush 8) 2 21 ∧ (Int8.ofInt 8).toInt32 = 8 := by decide +kernel
theorem d_C_draw_21 : dI prog_3_method_3_code 21 .iushr 1 22 := by decide +kernel
theorem d_C_draw_22 : decode prog_3_method_3_code 22 = .ok (.ireturn, 1) := by decide +kernel
theorem d_C_firmInAll_0 : dI prog_3_method_4_code 0 (.iconst 0) 1 1 ∧ Int32.ofInt 0 = 0 := by decide +kernel
theorem d_C_firmInAll_1 : dI prog_3_method_4_code 1 (.istore_n 1) 1 2 := by decide +kernel
theorem d_C_firmInAll_2 : dI prog_3_method_4_code 2 (.iconst 0) 1 3 ∧ Int32.ofInt 0 = 0 := by decide +kernel
theorem d_C_firmInAll_3 : dI prog_3_method_4_code 3 (.istore_n 2) 1 4 := by decide +kernel
theorem d_C_firmInAll_4 : dI prog_3_method_4_code 4 (.iload_n 2) 1 5 := by decide +kernel
theorem d_C_firmInAll_5 : dI prog_3_method_4_code 5 (.bipush 40) 2 7 ∧ (Int8.ofInt 40).toInt32 = 40 := by decide +kernel
theorem d_C_firmInAll_7 : dJ prog_3_method_4_code 7 (.if_icmp .ge 18) 18 10 25 := by decide +kernel
theorem d_C_firmInAll_10 : dI prog_3_method_4_code 10 (.iload_n 1) 1 11 := by decide +kernel
theorem d_C_firmInAll_11 : dI prog_3_method_4_code 11 (.aload_n 0) 1 12 := by decide +kernel
theorem d_C_firmInAll_12 : dI prog_3_method_4_code 12 (.getfield 24) 3 15 := by decide +kernel
theorem d_C_firmInAll_15 : dI prog_3_method_4_code 15 (.iload_n 2) 1 16 := by decide +kernel
theorem d_C_firmInAll_16 : dI prog_3_method_4_code 16 .iaload 1 17 := by decide +kernel
theorem d_C_firmInAll_17 : dI prog_3_method_4_code 17 .iadd 1 18 := by decide +kernel
theorem d_C_firmInAll_18 : dI prog_3_method_4_code 18 (.istore_n 1) 1 19 := by decide +kernel
theorem d_C_firmInAll_19 : dI prog_3_method_4_code 19 (.iinc 2 1) 3 22 ∧ Int32.ofInt 1 = 1 := by decide +kernel
theorem d_C_firmInAll_22 : dJ prog_3_method_4_code 22 (.goto (-18)) (-18) 25 4 := by decide +kernel
theorem d_C_firmInAll_25 : dI prog_3_method_4_code 25 (.iload_n 1) 1 26 := by decide +kernel
theorem d_C_firmInAll_26 : decode prog_3_method_4_code 26 = .ok (.ireturn, 1) := by decide +kernel
theorem d_C_hasRoomFor_0 : dI prog_3_method_5_code 0 (.aload_n 0) 1 1 := by decide +kernel
theorem d_C_hasRoomFor_1 : dI prog_3_method_5_code 1 (.getfield 54) 3 4 := by decide +kernel
theorem d_C_hasRoomFor_4 : dI prog_3_method_5_code 4 (.iload_n 1) 1 5 := by decide +kernel
theorem d_C_hasRoomFor_5 : dI prog_3_method_5_code 5 .iadd 1 6 := by decide +kernel
theorem d_C_hasRoomFor_6 : dI prog_3_method_5_code 6 (.bipush 20) 2 8 ∧ (Int8.ofInt 20).toInt32 = 20 := by decide +kernel
theorem d_C_hasRoomFor_8 : dJ prog_3_method_5_code 8 (.if_icmp .gt 7) 7 11 15 := by decide +kernel
theorem d_C_hasRoomFor_11 : dI prog_3_method_5_code 11 (.iconst 1) 1 12 ∧ Int32.ofInt 1 = 1 := by decide +kernel
theorem d_C_hasRoomFor_12 : dJ prog_3_method_5_code 12 (.goto 4) 4 15 16 := by decide +kernel
theorem d_C_hasRoomFor_15 : dI prog_3_method_5_code 15 (.iconst 0) 1 16 ∧ Int32.ofInt 0 = 0 := by decide +kernel
theorem d_C_hasRoomFor_16 : decode prog_3_method_5_code 16 = .ok (.ireturn, 1) := by decide +kernel
theorem d_C_addToPlan_0 : dI prog_3_method_6_code 0 (.iconst 0) 1 1 ∧ Int32.ofInt 0 = 0 := by decide +kernel
theorem d_C_addToPlan_1 : dI prog_3_method_6_code 1 (.istore_n 3) 1 2 := by decide +kernel
theorem d_C_addToPlan_2 : dI prog_3_method_6_code 2 (.iload_n 3) 1 3 := by decide +kernel
theorem d_C_addToPlan_3 : dI prog_3_method_6_code 3 (.iload_n 2) 1 4 := by decide +kernel
theorem d_C_addToPlan_4 : dJ prog_3_method_6_code 4 (.if_icmp .ge 38) 38 7 42 := by decide +kernel
theorem d_C_addToPlan_7 : dI prog_3_method_6_code 7 (.aload_n 0) 1 8 := by decide +kernel
theorem d_C_addToPlan_8 : dI prog_3_method_6_code 8 (.getfield 54) 3 11 := by decide +kernel
theorem d_C_addToPlan_11 : dI prog_3_method_6_code 11 (.bipush 20) 2 13 ∧ (Int8.ofInt 20).toInt32 = 20 := by decide +kernel
theorem d_C_addToPlan_13 : dJ prog_3_method_6_code 13 (.if_icmp .ge 29) 29 16 42 := by decide +kernel
theorem d_C_addToPlan_16 : dI prog_3_method_6_code 16 (.aload_n 0) 1 17 := by decide +kernel
theorem d_C_addToPlan_17 : dI prog_3_method_6_code 17 (.getfield 31) 3 20 := by decide +kernel
theorem d_C_addToPlan_20 : dI prog_3_method_6_code 20 (.aload_n 0) 1 21 := by decide +kernel
theorem d_C_addToPlan_21 : dI prog_3_method_6_code 21 (.getfield 54) 3 24 := by decide +kernel
theorem d_C_addToPlan_24 : dI prog_3_method_6_code 24 (.iload_n 1) 1 25 := by decide +kernel
theorem d_C_addToPlan_25 : dI prog_3_method_6_code 25 .iastore 1 26 := by decide +kernel
theorem d_C_addToPlan_26 : dI prog_3_method_6_code 26 (.aload_n 0) 1 27 := by decide +kernel
theorem d_C_addToPlan_27 : dI prog_3_method_6_code 27 .dup 1 28 := by decide +kernel
theorem d_C_addToPlan_28 : dI prog_3_method_6_code 28 (.getfield 54) 3 31 := by decide +kernel
theorem d_C_addToPlan_31 : dI prog_3_method_6_code 31 (.iconst 1) 1 32 ∧ Int32.ofInt 1 = 1 := by decide +kernel
theorem d_C_addToPlan_32 : dI prog_3_method_6_code 32 .iadd 1 33 := by decide +kernel
theorem d_C_addToPlan_33 : dI prog_3_method_6_code 33 (.putfield 54) 3 36 := by decide +kernel
theorem d_C_addToPlan_36 : dI prog_3_method_6_code 36 (.iinc 3 1) 3 39 ∧ Int32.ofInt 1 = 1 := by decide +kernel
theorem d_C_addToPlan_39 : dJ prog_3_method_6_code 39 (.goto (-37)) (-37) 42 2 := by decide +kernel
theorem d_C_addToPlan_42 : decode prog_3_method_6_code 42 = .ok (.return_, 1) := by decide +kernel
theorem d_C_planDoneBy_0 : dI prog_3_method_7_code 0 (.iconst 0) 1 1 ∧ Int32.ofInt 0 = 0 := by decide +kernel
theorem d_C_planDoneBy_1 : dI prog_3_method_7_code 1 (.istore_n 2) 1 2 := by decide +kernel
theorem d_C_planDoneBy_2 : dI prog_3_method_7_code 2 (.iload_n 2) 1 3 := by decide +kernel
theorem d_C_planDoneBy_3 : dI prog_3_method_7_code 3 (.aload_n 0) 1 4 := by decide +kernel
theorem d_C_planDoneBy_4 : dI prog_3_method_7_code 4 (.getfield 54) 3 7 := by decide +kernel
theorem d_C_planDoneBy_7 : dJ prog_3_method_7_code 7 (.if_icmp .ge 28) 28 10 35 := by decide +kernel
theorem d_C_planDoneBy_10 : dI prog_3_method_7_code 10 (.iload_n 2) 1 11 := by decide +kernel
theorem d_C_planDoneBy_11 : dI prog_3_method_7_code 11 (.bipush 20) 2 13 ∧ (Int8.ofInt 20).toInt32 = 20 := by decide +kernel
theorem d_C_planDoneBy_13 : dJ prog_3_method_7_code 13 (.if_icmp .ge 22) 22 16 35 := by decide +kernel
theorem d_C_planDoneBy_16 : dI prog_3_method_7_code 16 (.aload_n 1) 1 17 := by decide +kernel
theorem d_C_planDoneBy_17 : dI prog_3_method_7_code 17 (.aload_n 0) 1 18 := by decide +kernel
theorem d_C_planDoneBy_18 : dI prog_3_method_7_code 18 (.getfield 31) 3 21 := by decide +kernel
theorem d_C_planDoneBy_21 : dI prog_3_method_7_code 21 (.iload_n 2) 1 22 := by decide +kernel
theorem d_C_planDoneBy_22 : dI prog_3_method_7_code 22 .iaload 1 23 := by decide +kernel
theorem d_C_planDoneBy_23 : dI prog_3_method_7_code 23 (.invokevirtual 58) 3 26 := by decide +kernel
theorem d_C_planDoneBy_26 : dJ prog_3_method_7_code 26 (.ifCond .eq 9) 9 29 35 := by decide +kernel
theorem d_C_planDoneBy_29 : dI prog_3_method_7_code 29 (.iinc 2 1) 3 32 ∧ Int32.ofInt 1 = 1 := by decide +kernel
theorem d_C_planDoneBy_32 : dJ prog_3_method_7_code 32 (.goto (-30)) (-30) 35 2 := by decide +kernel
theorem d_C_planDoneBy_35 : dI prog_3_method_7_code 35 (.iload_n 2) 1 36 := by decide +kernel
theorem d_C_planDoneBy_36 : decode prog_3_method_7_code 36 = .ok (.ireturn, 1) := by decide +kernel
theorem d_H_init_0 : dI prog_4_method_1_code 0 (.aload_n 0) 1 1 := by decide +kernel
theorem d_H_init_1 : dI prog_4_method_1_code 1 (.invokespecial 3) 3 4 := by decide +kernel
theorem d_H_init_4 : dI prog_4_method_1_code 4 (.aload_n 0) 1 5 := by decide +kernel
theorem d_H_init_5 : dI prog_4_method_1_code 5 (.iconst 4) 1 6 ∧ Int32.ofInt 4 = 4 := by decide +kernel
theorem d_H_init_6 : dI prog_4_method_1_code 6 (.anewarray 9) 3 9 := by decide +kernel
theorem d_H_init_9 : dI prog_4_method_1_code 9 (.putfield 11) 3 12 := by decide +kernel
theorem d_H_init_12 : dI prog_4_method_1_code 12 (.iconst 0) 1 13 ∧ Int32.ofInt 0 = 0 := by decide +kernel
theorem d_H_init_13 : dI prog_4_method_1_code 13 (.istore_n 2) 1 14 := by decide +kernel
theorem d_H_init_14 : dI prog_4_method_1_code 14 (.iload_n 2) 1 15 := by decide +kernel
theorem d_H_init_15 : dI prog_4_method_1_code 15 (.iconst 3) 1 16 ∧ Int32.ofInt 3 = 3 := by decide +kernel
theorem d_H_init_16 : dJ prog_4_method_1_code 16 (.if_icmp .gt 23) 23 19 39 := by decide +kernel
theorem d_H_init_19 : dI prog_4_method_1_code 19 (.aload_n 0) 1 20 := by decide +kernel
theorem d_H_init_20 : dI prog_4_method_1_code 20 (.getfield 11) 3 23 := by decide +kernel
theorem d_H_init_23 : dI prog_4_method_1_code 23 (.iload_n 2) 1 24 := by decide +kernel
theorem d_H_init_24 : dI prog_4_method_1_code 24 (.new 9) 3 27 := by decide +kernel
theorem d_H_init_27 : dI prog_4_method_1_code 27 .dup 1 28 := by decide +kernel
theorem d_H_init_28 : dI prog_4_method_1_code 28 (.aload_n 1) 1 29 := by decide +kernel
theorem d_H_init_29 : dI prog_4_method_1_code 29 (.invokespecial 17) 3 32 := by decide +kernel
theorem d_H_init_32 : dI prog_4_method_1_code 32 .aastore 1 33 := by decide +kernel
theorem d_H_init_33 : dI prog_4_method_1_code 33 (.iinc 2 1) 3 36 ∧ Int32.ofInt 1 = 1 := by decide +kernel
theorem d_H_init_36 : dJ prog_4_method_1_code 36 (.goto (-22)) (-22) 39 14 := by decide +kernel
theorem d_H_init_39 : decode prog_4_method_1_code 39 = .ok (.return_, 1) := by decide +kernel
theorem d_H_begin_0 : dI prog_4_method_2_code 0 (.aload_n 0) 1 1 := by decide +kernel
theorem d_H_begin_1 : dI prog_4_method_2_code 1 (.getfield 11) 3 4 := by decide +kernel
theorem d_H_begin_4 : dI prog_4_method_2_code 4 (.iconst 0) 1 5 ∧ Int32.ofInt 0 = 0 := by decide +kernel
theorem d_H_begin_5 : dI prog_4_method_2_code 5 .aaload 1 6 := by decide +kernel
theorem d_H_begin_6 : dI prog_4_method_2_code 6 (.aload_n 1) 1 7 := by decide +kernel
theorem d_H_begin_7 : dI prog_4_method_2_code 7 (.invokevirtual 20) 3 10 := by decide +kernel
theorem d_H_begin_10 : dI prog_4_method_2_code 10 (.aload_n 0) 1 11 := by decide +kernel
theorem d_H_begin_11 : dI prog_4_method_2_code 11 (.iconst 0) 1 12 ∧ Int32.ofInt 0 = 0 := by decide +kernel
theorem d_H_begin_12 : dI prog_4_method_2_code 12 (.putfield 24) 3 15 := by decide +kernel
theorem d_H_begin_15 : decode prog_4_method_2_code 15 = .ok (.return_, 1) := by decide +kernel
theorem d_H_tryRows_0 : dI prog_4_method_3_code 0 (.iload_n 1) 1 1 := by decide +kernel
theorem d_H_tryRows_1 : dJ prog_4_method_3_code 1 (.ifCond .lt 8) 8 4 9 := by decide +kernel
theorem d_H_tryRows_4 : dI prog_4_method_3_code 4 (.iload_n 1) 1 5 := by decide +kernel
theorem d_H_tryRows_5 : dI prog_4_method_3_code 5 (.iconst 3) 1 6 ∧ Int32.ofInt 3 = 3 := by decide +kernel
theorem d_H_tryRows_6 : dJ prog_4_method_3_code 6 (.if_icmp .le 4) 4 9 10 := by decide +kernel
theorem d_H_tryRows_9 : decode prog_4_method_3_code 9 = .ok (.return_, 1) := by decide +kernel
theorem d_H_tryRows_10 : dI prog_4_method_3_code 10 (.iload_n 1) 1 11 := by decide +kernel
theorem d_H_tryRows_11 : dI prog_4_method_3_code 11 (.iload_n 2) 1 12 := by decide +kernel
theorem d_H_tryRows_12 : dJ prog_4_method_3_code 12 (.if_icmp .lt 15) 15 15 27 := by decide +kernel
theorem d_H_tryRows_15 : dI prog_4_method_3_code 15 (.aload_n 0) 1 16 := by decide +kernel
theorem d_H_tryRows_16 : dI prog_4_method_3_code 16 (.aload_n 0) 1 17 := by decide +kernel
theorem d_H_tryRows_17 : dI prog_4_method_3_code 17 (.getfield 11) 3 20 := by decide +kernel
theorem d_H_tryRows_20 : dI prog_4_method_3_code 20 (.iload_n 1) 1 21 := by decide +kernel
theorem d_H_tryRows_21 : dI prog_4_method_3_code 21 .aaload 1 22 := by decide +kernel
theorem d_H_tryRows_22 : dI prog_4_method_3_code 22 (.iload_n 3) 1 23 := by decide +kernel
theorem d_H_tryRows_23 : dI prog_4_method_3_code 23 (.invokevirtual 28) 3 26 := by decide +kernel
theorem d_H_tryRows_26 : decode prog_4_method_3_code 26 = .ok (.return_, 1) := by decide +kernel
theorem d_H_tryRows_27 : dI prog_4_method_3_code 27 (.iconst 0) 1 28 ∧ Int32.ofInt 0 = 0 := by decide +kernel
theorem d_H_tryRows_28 : dI prog_4_method_3_code 28 (.istore 4) 2 30 := by decide +kernel
theorem d_H_tryRows_30 : dI prog_4_method_3_code 30 (.iload 4) 2 32 := by decide +kernel
theorem d_H_tryRows_32 : dI prog_4_method_3_code 32 (.bipush 8) 2 34 ∧ (Int8.ofInt 8).toInt32 = 8 := by decide +kernel
theorem d_H_tryRows_34 : dJ prog_4_method_3_code 34 (.if_icmp .ge 60) 60 37 94 := by decide +kernel
theorem d_H_tryRows_37 : dI prog_4_method_3_code 37 (.iload_n 1) 1 38 := by decide +kernel
theorem d_H_tryRows_38 : dI prog_4_method_3_code 38 (.iconst 3) 1 39 ∧ Int32.ofInt 3 = 3 := by decide +kernel
theorem d_H_tryRows_39 : dJ prog_4_method_3_code 39 (.if_icmp .ge 55) 55 42 94 := by decide +kernel
theorem d_H_tryRows_42 : dI prog_4_method_3_code 42 (.aload_n 0) 1 43 := by decide +kernel
theorem d_H_tryRows_43 : dI prog_4_method_3_code 43 (.getfield 11) 3 46 := by decide +kernel
theorem d_H_tryRows_46 : dI prog_4_method_3_code 46 (.iload_n 1) 1 47 := by decide +kernel
theorem d_H_tryRows_47 : dI prog_4_method_3_code 47 (.iconst 1) 1 48 ∧ Int32.ofInt 1 = 1 := by decide +kernel
theorem d_H_tryRows_48 : dI prog_4_method_3_code 48 .iadd 1 49 := by decide +kernel
theorem d_H_tryRows_49 : dI prog_4_method_3_code 49 .aaload 1 50 := by decide +kernel
theorem d_H_tryRows_50 : dI prog_4_method_3_code 50 (.astore 5) 2 52 := by decide +kernel
theorem d_H_tryRows_52 : dI prog_4_method_3_code 52 (.aload 5) 2 54 := by decide +kernel
theorem d_H_tryRows_54 : dI prog_4_method_3_code 54 (.aload_n 0) 1 55 := by decide +kernel
theorem d_H_tryRows_55 : dI prog_4_method_3_code 55 (.getfield 11) 3 58 := by decide +kernel
theorem d_H_tryRows_58 : dI prog_4_method_3_code 58 (.iload_n 1) 1 59 := by decide +kernel
theorem d_H_tryRows_59 : dI prog_4_method_3_code 59 .aaload 1 60 := by decide +kernel
theorem d_H_tryRows_60 : dI prog_4_method_3_code 60 (.invokevirtual 20) 3 63 := by decide +kernel
theorem d_H_tryRows_63 : dI prog_4_method_3_code 63 (.aload 5) 2 65 := by decide +kernel
theorem d_H_tryRows_65 : dI prog_4_method_3_code 65 (.iload 4) 2 67 := by decide +kernel
theorem d_H_tryRows_67 : dI prog_4_method_3_code 67 (.invokevirtual 32) 3 70 := by decide +kernel
theorem d_H_tryRows_70 : dJ prog_4_method_3_code 70 (.ifCond .eq 18) 18 73 88 := by decide +kernel
theorem d_H_tryRows_73 : dI prog_4_method_3_code 73 (.aload_n 0) 1 74 := by decide +kernel
theorem d_H_tryRows_74 : dI prog_4_method_3_code 74 (.iload_n 1) 1 75 := by decide +kernel
theorem d_H_tryRows_75 : dI prog_4_method_3_code 75 (.iconst 1) 1 76 ∧ Int32.ofInt 1 = 1 := by decide +kernel
theorem d_H_tryRows_76 : dI prog_4_method_3_code 76 .iadd 1 77 := by decide +kernel
theorem d_H_tryRows_77 : dI prog_4_method_3_code 77 (.iload_n 2) 1 78 := by decide +kernel
theorem d_H_tryRows_78 : dI prog_4_method_3_code 78 (.iload_n 3) 1 79 := by decide +kernel
theorem d_H_tryRows_79 : dI prog_4_method_3_code 79 (.bipush 10) 2 81 ∧ (Int8.ofInt 10).toInt32 = 10 := by decide +kernel
theorem d_H_tryRows_81 : dI prog_4_method_3_code 81 .imul 1 82 := by decide +kernel
theorem d_H_tryRows_82 : dI prog_4_method_3_code 82 (.iload 4) 2 84 := by decide +kernel
theorem d_H_tryRows_84 : dI prog_4_method_3_code 84 .iadd 1 85 := by decide +kernel
theorem d_H_tryRows_85 : dI prog_4_method_3_code 85 (.invokestatic 36) 3 88 := by decide +kernel
theorem d_H_tryRows_88 : dI prog_4_method_3_code 88 (.iinc 4 1) 3 91 ∧ Int32.ofInt 1 = 1 := by decide +kernel
theorem d_H_tryRows_91 : dJ prog_4_method_3_code 91 (.goto (-61)) (-61) 94 30 := by decide +kernel
theorem d_H_tryRows_94 : decode prog_4_method_3_code 94 = .ok (.return_, 1) := by decide +kernel
theorem d_H_weigh_0 : dI prog_4_method_4_code 0 (.aload_n 1) 1 1 := by decide +kernel
theorem d_H_weigh_1 : dI prog_4_method_4_code 1 (.aload_n 0) 1 2 := by decide +kernel
theorem d_H_weigh_2 : dI prog_4_method_4_code 2 (.getfield 11) 3 5 := by decide +kernel
theorem d_H_weigh_5 : dI prog_4_method_4_code 5 (.iconst 0) 1 6 ∧ Int32.ofInt 0 = 0 := by decide +kernel
theorem d_H_weigh_6 : dI prog_4_method_4_code 6 .aaload 1 7 := by decide +kernel
theorem d_H_weigh_7 : dI prog_4_method_4_code 7 (.iconst 0) 1 8 ∧ Int32.ofInt 0 = 0 := by decide +kernel
theorem d_H_weigh_8 : dI prog_4_method_4_code 8 (.invokevirtual 40) 3 11 := by decide +kernel
theorem d_H_weigh_11 : dI prog_4_method_4_code 11 (.istore_n 3) 1 12 := by decide +kernel
theorem d_H_weigh_12 : dI prog_4_method_4_code 12 (.aload_n 1) 1 13 := by decide +kernel
theorem d_H_weigh_13 : dI prog_4_method_4_code 13 (.aload_n 0) 1 14 := by decide +kernel
theorem d_H_weigh_14 : dI prog_4_method_4_code 14 (.getfield 11) 3 17 := by decide +kernel
theorem d_H_weigh_17 : dI prog_4_method_4_code 17 (.iconst 0) 1 18 ∧ Int32.ofInt 0 = 0 := by decide +kernel
theorem d_H_weigh_18 : dI prog_4_method_4_code 18 .aaload 1 19 := by decide +kernel
theorem d_H_weigh_19 : dI prog_4_method_4_code 19 (.bipush 8) 2 21 ∧ (Int8.ofInt 8).toInt32 = 8 := by decide +kernel
theorem d_H_weigh_21 : dI prog_4_method_4_code 21 (.invokevirtual 40) 3 24 := by decide +kernel
theorem d_H_weigh_24 : dI prog_4_method_4_code 24 (.istore 4) 2 26 := by decide +kernel
theorem d_H_weigh_26 : dI prog_4_method_4_code 26 (.aload_n 0) 1 27 := by decide +kernel
theorem d_H_weigh_27 : dI prog_4_method_4_code 27 (.getfield 24) 3 30 := by decide +kernel
theorem d_H_weigh_30 : dJ prog_4_method_4_code 30 (.ifCond .eq 28) 28 33 58 := by decide +kernel
theorem d_H_weigh_33 : dI prog_4_method_4_code 33 (.iload_n 3) 1 34 := by decide +kernel
theorem d_H_weigh_34 : dI prog_4_method_4_code 34 (.aload_n 0) 1 35 := by decide +kernel
theorem d_H_weigh_35 : dI prog_4_method_4_code 35 (.getfield 44) 3 38 := by decide +kernel
theorem d_H_weigh_38 : dJ prog_4_method_4_code 38 (.if_icmp .gt 20) 20 41 58 := by decide +kernel
theorem d_H_weigh_41 : dI prog_4_method_4_code 41 (.iload_n 3) 1 42 := by decide +kernel
theorem d_H_weigh_42 : dI prog_4_method_4_code 42 (.aload_n 0) 1 43 := by decide +kernel
theorem d_H_weigh_43 : dI prog_4_method_4_code 43 (.getfield 44) 3 46 := by decide +kernel
theorem d_H_weigh_46 : dJ prog_4_method_4_code 46 (.if_icmp .ne 33) 33 49 79 := by decide +kernel
theorem d_H_weigh_49 : dI prog_4_method_4_code 49 (.iload 4) 2 51 := by decide +kernel
theorem d_H_weigh_51 : dI prog_4_method_4_code 51 (.aload_n 0) 1 52 := by decide +kernel
theorem d_H_weigh_52 : dI prog_4_method_4_code 52 (.getfield 48) 3 55 := by decide +kernel
theorem d_H_weigh_55 : dJ prog_4_method_4_code 55 (.if_icmp .ge 24) 24 58 79 := by decide +kernel
theorem d_H_weigh_58 : dI prog_4_method_4_code 58 (.aload_n 0) 1 59 := by decide +kernel
theorem d_H_weigh_59 : dI prog_4_method_4_code 59 (.iconst 1) 1 60 ∧ Int32.ofInt 1 = 1 := by decide +kernel
theorem d_H_weigh_60 : dI prog_4_method_4_code 60 (.putfield 24) 3 63 := by decide +kernel
theorem d_H_weigh_63 : dI prog_4_method_4_code 63 (.aload_n 0) 1 64 := by decide +kernel
theorem d_H_weigh_64 : dI prog_4_method_4_code 64 (.iload_n 3) 1 65 := by decide +kernel
theorem d_H_weigh_65 : dI prog_4_method_4_code 65 (.putfield 44) 3 68 := by decide +kernel
theorem d_H_weigh_68 : dI prog_4_method_4_code 68 (.aload_n 0) 1 69 := by decide +kernel
theorem d_H_weigh_69 : dI prog_4_method_4_code 69 (.iload 4) 2 71 := by decide +kernel
theorem d_H_weigh_71 : dI prog_4_method_4_code 71 (.putfield 48) 3 74 := by decide +kernel
theorem d_H_weigh_74 : dI prog_4_method_4_code 74 (.aload_n 0) 1 75 := by decide +kernel
theorem d_H_weigh_75 : dI prog_4_method_4_code 75 (.iload_n 2) 1 76 := by decide +kernel
theorem d_H_weigh_76 : dI prog_4_method_4_code 76 (.putfield 51) 3 79 := by decide +kernel
theorem d_H_weigh_79 : decode prog_4_method_4_code 79 = .ok (.return_, 1) := by decide +kernel
theorem d_T_init_0 : dI prog_5_method_1_code 0 (.aload_n 0) 1 1 := by decide +kernel
theorem d_T_init_1 : dI prog_5_method_1_code 1 (.invokespecial 3) 3 4 := by decide +kernel
theorem d_T_init_4 : dI prog_5_method_1_code 4 (.aload_n 0) 1 5 := by decide +kernel
theorem d_T_init_5 : dI prog_5_method_1_code 5 (.bipush 40) 2 7 ∧ (Int8.ofInt 40).toInt32 = 40 := by decide +kernel
theorem d_T_init_7 : dI prog_5_method_1_code 7 (.newarray .int) 2 9 := by decide +kernel
theorem d_T_init_9 : dI prog_5_method_1_code 9 (.putfield 9) 3 12 := by decide +kernel
theorem d_T_init_12 : decode prog_5_method_1_code 12 = .ok (.return_, 1) := by decide +kernel
theorem d_T_isMissing_0 : dI prog_5_method_2_code 0 (.aload_n 0) 1 1 := by decide +kernel
theorem d_T_isMissing_1 : dI prog_5_method_2_code 1 (.getfield 15) 3 4 := by decide +kernel
theorem d_T_isMissing_4 : dJ prog_5_method_2_code 4 (.ifCond .ne 7) 7 7 11 := by decide +kernel
theorem d_T_isMissing_7 : dI prog_5_method_2_code 7 (.iconst 1) 1 8 ∧ Int32.ofInt 1 = 1 := by decide +kernel
theorem d_T_isMissing_8 : dJ prog_5_method_2_code 8 (.goto 4) 4 11 12 := by decide +kernel
theorem d_T_isMissing_11 : dI prog_5_method_2_code 11 (.iconst 0) 1 12 ∧ Int32.ofInt 0 = 0 := by decide +kernel
theorem d_T_isMissing_12 : decode prog_5_method_2_code 12 = .ok (.ireturn, 1) := by decide +kernel
theorem d_T_renew_0 : dI prog_5_method_3_code 0 (.aload_n 0) 1 1 := by decide +kernel
theorem d_T_renew_1 : dI prog_5_method_3_code 1 (.getfield 9) 3 4 := by decide +kernel
theorem d_T_renew_4 : dI prog_5_method_3_code 4 (.iconst 0) 1 5 ∧ Int32.ofInt 0 = 0 := by decide +kernel
theorem d_T_renew_5 : dI prog_5_method_3_code 5 (.invokestatic 19) 3 8 := by decide +kernel
theorem d_T_renew_8 : dI prog_5_method_3_code 8 (.aload_n 0) 1 9 := by decide +kernel
theorem d_T_renew_9 : dI prog_5_method_3_code 9 (.iload_n 1) 1 10 := by decide +kernel
theorem d_T_renew_10 : dI prog_5_method_3_code 10 (.putfield 15) 3 13 := by decide +kernel
theorem d_T_renew_13 : dI prog_5_method_3_code 13 (.aload_n 0) 1 14 := by decide +kernel
theorem d_T_renew_14 : dI prog_5_method_3_code 14 (.aload_n 0) 1 15 := by decide +kernel
theorem d_T_renew_15 : dI prog_5_method_3_code 15 (.invokevirtual 25) 3 18 := by decide +kernel
theorem d_T_renew_18 : dJ prog_5_method_3_code 18 (.ifCond .eq 7) 7 21 25 := by decide +kernel
theorem d_T_renew_21 : dI prog_5_method_3_code 21 (.iconst 0) 1 22 ∧ Int32.ofInt 0 = 0 := by decide +kernel
theorem d_T_renew_22 : dJ prog_5_method_3_code 22 (.goto 4) 4 25 26 := by decide +kernel
theorem d_T_renew_25 : dI prog_5_method_3_code 25 (.iload_n 2) 1 26 := by decide +kernel
theorem d_T_renew_26 : dI prog_5_method_3_code 26 (.putfield 29) 3 29 := by decide +kernel
theorem d_T_renew_29 : decode prog_5_method_3_code 29 = .ok (.return_, 1) := by decide +kernel
theorem d_T_hasAll_0 : dI prog_5_method_4_code 0 (.iload_n 1) 1 1 := by decide +kernel
theorem d_T_hasAll_1 : dJ prog_5_method_4_code 1 (.ifCond .lt 21) 21 4 22 := by decide +kernel
theorem d_T_hasAll_4 : dI prog_5_method_4_code 4 (.iload_n 2) 1 5 := by decide +kernel
theorem d_T_hasAll_5 : dJ prog_5_method_4_code 5 (.ifCond .lt 17) 17 8 22 := by decide +kernel
theorem d_T_hasAll_8 : dI prog_5_method_4_code 8 (.iload_n 1) 1 9 := by decide +kernel
theorem d_T_hasAll_9 : dI prog_5_method_4_code 9 (.aload_n 0) 1 10 := by decide +kernel
theorem d_T_hasAll_10 : dI prog_5_method_4_code 10 (.getfield 29) 3 13 := by decide +kernel
theorem d_T_hasAll_13 : dI prog_5_method_4_code 13 (.iload_n 2) 1 14 := by decide +kernel
theorem d_T_hasAll_14 : dI prog_5_method_4_code 14 .isub 1 15 := by decide +kernel
theorem d_T_hasAll_15 : dJ prog_5_method_4_code 15 (.if_icmp .gt 7) 7 18 22 := by decide +kernel
theorem d_T_hasAll_18 : dI prog_5_method_4_code 18 (.iconst 1) 1 19 ∧ Int32.ofInt 1 = 1 := by decide +kernel
theorem d_T_hasAll_19 : dJ prog_5_method_4_code 19 (.goto 4) 4 22 23 := by decide +kernel
theorem d_T_hasAll_22 : dI prog_5_method_4_code 22 (.iconst 0) 1 23 ∧ Int32.ofInt 0 = 0 := by decide +kernel
theorem d_T_hasAll_23 : decode prog_5_method_4_code 23 = .ok (.ireturn, 1) := by decide +kernel
theorem d_T_fitted_0 : dI prog_5_method_5_code 0 (.aload_n 0) 1 1 := by decide +kernel
theorem d_T_fitted_1 : dI prog_5_method_5_code 1 (.getfield 15) 3 4 := by decide +kernel
theorem d_T_fitted_4 : decode prog_5_method_5_code 4 = .ok (.lookupswitch 34 #[(8, 28), (16, 31)], 28) := by decide +kernel
theorem d_T_fitted_32 : dI prog_5_method_5_code 32 (.iload_n 1) 1 33 := by decide +kernel
theorem d_T_fitted_33 : dI prog_5_method_5_code 33 .i2b 1 34 := by decide +kernel
theorem d_T_fitted_34 : decode prog_5_method_5_code 34 = .ok (.ireturn, 1) := by decide +kernel
theorem d_T_fitted_35 : dI prog_5_method_5_code 35 (.iload_n 1) 1 36 := by decide +kernel
theorem d_T_fitted_36 : dI prog_5_method_5_code 36 .i2s 1 37 := by decide +kernel
theorem d_T_fitted_37 : decode prog_5_method_5_code 37 = .ok (.ireturn, 1) := by decide +kernel
theorem d_T_fitted_38 : dI prog_5_method_5_code 38 (.iload_n 1) 1 39 := by decide +kernel
theorem d_T_fitted_39 : decode prog_5_method_5_code 39 = .ok (.ireturn, 1) := by decide +kernel
theorem d_P_init_0 : dI prog_6_method_1_code 0 (.aload_n 0) 1 1 := by decide +kernel
theorem d_P_init_1 : dI prog_6_method_1_code 1 (.invokespecial 3) 3 4 := by decide +kernel
theorem d_P_init_4 : dI prog_6_method_1_code 4 (.aload_n 0) 1 5 := by decide +kernel
theorem d_P_init_5 : dI prog_6_method_1_code 5 (.bipush 120) 2 7 ∧ (Int8.ofInt 120).toInt32 = 120 := by decide +kernel
theorem d_P_init_7 : dI prog_6_method_1_code 7 (.newarray .int) 2 9 := by decide +kernel
theorem d_P_init_9 : dI prog_6_method_1_code 9 (.putfield 9) 3 12 := by decide +kernel
theorem d_P_init_12 : decode prog_6_method_1_code 12 = .ok (.return_, 1) := by decide +kernel
theorem d_P_append_0 : dI prog_6_method_2_code 0 (.aload_n 0) 1 1 := by decide +kernel
theorem d_P_append_1 : dI prog_6_method_2_code 1 (.getfield 15) 3 4 := by decide +kernel
theorem d_P_append_4 : dJ prog_6_method_2_code 4 (.ifCond .lt 32) 32 7 36 := by decide +kernel
theorem d_P_append_7 : dI prog_6_method_2_code 7 (.aload_n 0) 1 8 := by decide +kernel
theorem d_P_append_8 : dI prog_6_method_2_code 8 (.getfield 15) 3 11 := by decide +kernel
theorem d_P_append_11 : dI prog_6_method_2_code 11 (.bipush 120) 2 13 ∧ (Int8.ofInt 120).toInt32 = 120 := by decide +kernel
theorem d_P_append_13 : dJ prog_6_method_2_code 13 (.if_icmp .ge 23) 23 16 36 := by decide +kernel
theorem d_P_append_16 : dI prog_6_method_2_code 16 (.aload_n 0) 1 17 := by decide +kernel
theorem d_P_append_17 : dI prog_6_method_2_code 17 (.getfield 9) 3 20 := by decide +kernel
theorem d_P_append_20 : dI prog_6_method_2_code 20 (.aload_n 0) 1 21 := by decide +kernel
theorem d_P_append_21 : dI prog_6_method_2_code 21 (.getfield 15) 3 24 := by decide +kernel
theorem d_P_append_24 : dI prog_6_method_2_code 24 (.iload_n 1) 1 25 := by decide +kernel
theorem d_P_append_25 : dI prog_6_method_2_code 25 .iastore 1 26 := by decide +kernel
theorem d_P_append_26 : dI prog_6_method_2_code 26 (.aload_n 0) 1 27 := by decide +kernel
theorem d_P_append_27 : dI prog_6_method_2_code 27 .dup 1 28 := by decide +kernel
theorem d_P_append_28 : dI prog_6_method_2_code 28 (.getfield 15) 3 31 := by decide +kernel
theorem d_P_append_31 : dI prog_6_method_2_code 31 (.iconst 1) 1 32 ∧ Int32.ofInt 1 = 1 := by decide +kernel
theorem d_P_append_32 : dI prog_6_method_2_code 32 .iadd 1 33 := by decide +kernel
theorem d_P_append_33 : dI prog_6_method_2_code 33 (.putfield 15) 3 36 := by decide +kernel
theorem d_P_append_36 : decode prog_6_method_2_code 36 = .ok (.return_, 1) := by decide +kernel
theorem d_P_readInto_0 : dI prog_6_method_3_code 0 (.aload_n 0) 1 1 := by decide +kernel
theorem d_P_readInto_1 : dI prog_6_method_3_code 1 (.iconst 0) 1 2 ∧ Int32.ofInt 0 = 0 := by decide +kernel
theorem d_P_readInto_2 : dI prog_6_method_3_code 2 (.putfield 19) 3 5 := by decide +kernel
theorem d_P_readInto_5 : dI prog_6_method_3_code 5 (.iconst 0) 1 6 ∧ Int32.ofInt 0 = 0 := by decide +kernel
theorem d_P_readInto_6 : dI prog_6_method_3_code 6 (.istore_n 2) 1 7 := by decide +kernel
theorem d_P_readInto_7 : dI prog_6_method_3_code 7 (.iload_n 2) 1 8 := by decide +kernel
theorem d_P_readInto_8 : dI prog_6_method_3_code 8 (.bipush 120) 2 10 ∧ (Int8.ofInt 120).toInt32 = 120 := by decide +kernel
theorem d_P_readInto_10 : dJ prog_6_method_3_code 10 (.if_icmp .gt 48) 48 13 58 := by decide +kernel
theorem d_P_readInto_13 : dI prog_6_method_3_code 13 (.aload_n 0) 1 14 := by decide +kernel
theorem d_P_readInto_14 : dI prog_6_method_3_code 14 (.invokevirtual 22) 3 17 := by decide +kernel
theorem d_P_readInto_17 : dI prog_6_method_3_code 17 (.aload_n 0) 1 18 := by decide +kernel
theorem d_P_readInto_18 : dI prog_6_method_3_code 18 (.aload_n 1) 1 19 := by decide +kernel
theorem d_P_readInto_19 : dI prog_6_method_3_code 19 (.invokevirtual 25) 3 22 := by decide +kernel
theorem d_P_readInto_22 : dJ prog_6_method_3_code 22 (.ifCond .ne 8) 8 25 30 := by decide +kernel
theorem d_P_readInto_25 : dI prog_6_method_3_code 25 (.aload_n 0) 1 26 := by decide +kernel
theorem d_P_readInto_26 : dI prog_6_method_3_code 26 (.getfield 29) 3 29 := by decide +kernel
theorem d_P_readInto_29 : decode prog_6_method_3_code 29 = .ok (.ireturn, 1) := by decide +kernel
theorem d_P_readInto_30 : dI prog_6_method_3_code 30 (.aload_n 0) 1 31 := by decide +kernel
theorem d_P_readInto_31 : dI prog_6_method_3_code 31 (.getfield 32) 3 34 := by decide +kernel
theorem d_P_readInto_34 : dJ prog_6_method_3_code 34 (.ifCond .ne 5) 5 37 39 := by decide +kernel
theorem d_P_readInto_37 : dI prog_6_method_3_code 37 (.iconst (-1)) 1 38 ∧ Int32.ofInt (-1) = (-1) := by decide +kernel
theorem d_P_readInto_38 : decode prog_6_method_3_code 38 = .ok (.ireturn, 1) := by decide +kernel
theorem d_P_readInto_39 : dI prog_6_method_3_code 39 (.aload_n 0) 1 40 := by decide +kernel
theorem d_P_readInto_40 : dI prog_6_method_3_code 40 (.getfield 32) 3 43 := by decide +kernel
theorem d_P_readInto_43 : dI prog_6_method_3_code 43 (.iconst 3) 1 44 ∧ Int32.ofInt 3 = 3 := by decide +kernel
theorem d_P_readInto_44 : dJ prog_6_method_3_code 44 (.if_icmp .eq 8) 8 47 52 := by decide +kernel
theorem d_P_readInto_47 : dI prog_6_method_3_code 47 (.aload_n 0) 1 48 := by decide +kernel
theorem d_P_readInto_48 : dI prog_6_method_3_code 48 (.getfield 29) 3 51 := by decide +kernel
theorem d_P_readInto_51 : decode prog_6_method_3_code 51 = .ok (.ireturn, 1) := by decide +kernel
theorem d_P_readInto_52 : dI prog_6_method_3_code 52 (.iinc 2 1) 3 55 ∧ Int32.ofInt 1 = 1 := by decide +kernel
theorem d_P_readInto_55 : dJ prog_6_method_3_code 55 (.goto (-48)) (-48) 58 7 := by decide +kernel
theorem d_P_readInto_58 : dI prog_6_method_3_code 58 (.aload_n 0) 1 59 := by decide +kernel
theorem d_P_readInto_59 : dI prog_6_method_3_code 59 (.getfield 29) 3 62 := by decide +kernel
theorem d_P_readInto_62 : decode prog_6_method_3_code 62 = .ok (.ireturn, 1) := by decide +kernel
theorem d_P_readItem_0 : dI prog_6_method_4_code 0 (.aload_n 0) 1 1 := by decide +kernel
theorem d_P_readItem_1 : dI prog_6_method_4_code 1 (.getfield 32) 3 4 := by decide +kernel
theorem d_P_readItem_4 : dI prog_6_method_4_code 4 (.iconst 1) 1 5 ∧ Int32.ofInt 1 = 1 := by decide +kernel
theorem d_P_readItem_5 : dJ prog_6_method_4_code 5 (.if_icmp .ne 10) 10 8 15 := by decide +kernel
theorem d_P_readItem_8 : dI prog_6_method_4_code 8 (.aload_n 0) 1 9 := by decide +kernel
theorem d_P_readItem_9 : dI prog_6_method_4_code 9 (.invokevirtual 35) 3 12 := by decide +kernel
theorem d_P_readItem_12 : dJ prog_6_method_4_code 12 (.goto 4) 4 15 16 := by decide +kernel
theorem d_P_readItem_15 : dI prog_6_method_4_code 15 (.iconst (-1)) 1 16 ∧ Int32.ofInt (-1) = (-1) := by decide +kernel
theorem d_P_readItem_16 : dI prog_6_method_4_code 16 (.istore_n 2) 1 17 := by decide +kernel
theorem d_P_readItem_17 : dI prog_6_method_4_code 17 (.iload_n 2) 1 18 := by decide +kernel
theorem d_P_readItem_18 : dJ prog_6_method_4_code 18 (.ifCond .ge 5) 5 21 23 := by decide +kernel
theorem d_P_readItem_21 : dI prog_6_method_4_code 21 (.iconst 0) 1 22 ∧ Int32.ofInt 0 = 0 := by decide +kernel
theorem d_P_readItem_22 : decode prog_6_method_4_code 22 = .ok (.ireturn, 1) := by decide +kernel
theorem d_P_readItem_23 : dI prog_6_method_4_code 23 (.iload_n 2) 1 24 := by decide +kernel
theorem d_P_readItem_24 : dI prog_6_method_4_code 24 (.bipush 8) 2 26 ∧ (Int8.ofInt 8).toInt32 = 8 := by decide +kernel
theorem d_P_readItem_26 : dJ prog_6_method_4_code 26 (.if_icmp .ge 10) 10 29 36 := by decide +kernel
theorem d_P_readItem_29 : dI prog_6_method_4_code 29 (.aload_n 0) 1 30 := by decide +kernel
theorem d_P_readItem_30 : dI prog_6_method_4_code 30 (.aload_n 1) 1 31 := by decide +kernel
theorem d_P_readItem_31 : dI prog_6_method_4_code 31 (.iload_n 2) 1 32 := by decide +kernel
theorem d_P_readItem_32 : dI prog_6_method_4_code 32 (.invokevirtual 39) 3 35 := by decide +kernel
theorem d_P_readItem_35 : decode prog_6_method_4_code 35 = .ok (.ireturn, 1) := by decide +kernel
theorem d_P_readItem_36 : dI prog_6_method_4_code 36 (.iload_n 2) 1 37 := by decide +kernel
theorem d_P_readItem_37 : dI prog_6_method_4_code 37 (.bipush 8) 2 39 ∧ (Int8.ofInt 8).toInt32 = 8 := by decide +kernel
theorem d_P_readItem_39 : dJ prog_6_method_4_code 39 (.if_icmp .ne 9) 9 42 48 := by decide +kernel
theorem d_P_readItem_42 : dI prog_6_method_4_code 42 (.aload_n 0) 1 43 := by decide +kernel
theorem d_P_readItem_43 : dI prog_6_method_4_code 43 (.aload_n 1) 1 44 := by decide +kernel
theorem d_P_readItem_44 : dI prog_6_method_4_code 44 (.invokevirtual 43) 3 47 := by decide +kernel
theorem d_P_readItem_47 : decode prog_6_method_4_code 47 = .ok (.ireturn, 1) := by decide +kernel
theorem d_P_readItem_48 : dI prog_6_method_4_code 48 (.aload_n 0) 1 49 := by decide +kernel
theorem d_P_readItem_49 : dI prog_6_method_4_code 49 (.aload_n 1) 1 50 := by decide +kernel
theorem d_P_readItem_50 : dI prog_6_method_4_code 50 (.iload_n 2) 1 51 := by decide +kernel
theorem d_P_readItem_51 : dI prog_6_method_4_code 51 (.bipush 8) 2 53 ∧ (Int8.ofInt 8).toInt32 = 8 := by decide +kernel
theorem d_P_readItem_53 : dI prog_6_method_4_code 53 .isub 1 54 := by decide +kernel
theorem d_P_readItem_54 : dI prog_6_method_4_code 54 (.iconst 1) 1 55 ∧ Int32.ofInt 1 = 1 := by decide +kernel
theorem d_P_readItem_55 : dI prog_6_method_4_code 55 .iadd 1 56 := by decide +kernel
theorem d_P_readItem_56 : dI prog_6_method_4_code 56 (.invokevirtual 46) 3 59 := by decide +kernel
theorem d_P_readItem_59 : decode prog_6_method_4_code 59 = .ok (.ireturn, 1) := by decide +kernel
theorem d_P_readEfforts_0 : dI prog_6_method_5_code 0 (.aload_n 1) 1 1 := by decide +kernel
theorem d_P_readEfforts_1 : dI prog_6_method_5_code 1 (.iconst 1) 1 2 ∧ Int32.ofInt 1 = 1 := by decide +kernel
theorem d_P_readEfforts_2 : dI prog_6_method_5_code 2 (.invokevirtual 49) 3 5 := by decide +kernel
theorem d_P_readEfforts_5 : dJ prog_6_method_5_code 5 (.ifCond .ne 5) 5 8 10 := by decide +kernel
theorem d_P_readEfforts_8 : dI prog_6_method_5_code 8 (.iconst 0) 1 9 ∧ Int32.ofInt 0 = 0 := by decide +kernel
theorem d_P_readEfforts_9 : decode prog_6_method_5_code 9 = .ok (.ireturn, 1) := by decide +kernel
theorem d_P_readEfforts_10 : dI prog_6_method_5_code 10 (.aload_n 0) 1 11 := by decide +kernel
theorem d_P_readEfforts_11 : dI prog_6_method_5_code 11 (.invokevirtual 22) 3 14 := by decide +kernel
theorem d_P_readEfforts_14 : dI prog_6_method_5_code 14 (.iconst 1) 1 15 ∧ Int32.ofInt 1 = 1 := by decide +kernel
theorem d_P_readEfforts_15 : dI prog_6_method_5_code 15 (.istore_n 3) 1 16 := by decide +kernel
theorem d_P_readEfforts_16 : dI prog_6_method_5_code 16 (.aload_n 0) 1 17 := by decide +kernel
theorem d_P_readEfforts_17 : dI prog_6_method_5_code 17 (.getfield 32) 3 20 := by decide +kernel
theorem d_P_readEfforts_20 : dI prog_6_method_5_code 20 (.iconst 2) 1 21 ∧ Int32.ofInt 2 = 2 := by decide +kernel
theorem d_P_readEfforts_21 : dJ prog_6_method_5_code 21 (.if_icmp .ne 33) 33 24 54 := by decide +kernel
theorem d_P_readEfforts_24 : dI prog_6_method_5_code 24 (.aload_n 0) 1 25 := by decide +kernel
theorem d_P_readEfforts_25 : dI prog_6_method_5_code 25 (.getfield 55) 3 28 := by decide +kernel
theorem d_P_readEfforts_28 : dI prog_6_method_5_code 28 (.istore_n 3) 1 29 := by decide +kernel
theorem d_P_readEfforts_29 : dI prog_6_method_5_code 29 (.iload_n 3) 1 30 := by decide +kernel
theorem d_P_readEfforts_30 : dI prog_6_method_5_code 30 (.iconst 1) 1 31 ∧ Int32.ofInt 1 = 1 := by decide +kernel
theorem d_P_readEfforts_31 : dJ prog_6_method_5_code 31 (.if_icmp .lt 17) 17 34 48 := by decide +kernel
theorem d_P_readEfforts_34 : dI prog_6_method_5_code 34 (.iload_n 3) 1 35 := by decide +kernel
theorem d_P_readEfforts_35 : dI prog_6_method_5_code 35 (.bipush 9) 2 37 ∧ (Int8.ofInt 9).toInt32 = 9 := by decide +kernel
theorem d_P_readEfforts_37 : dJ prog_6_method_5_code 37 (.if_icmp .gt 11) 11 40 48 := by decide +kernel
theorem d_P_readEfforts_40 : dI prog_6_method_5_code 40 (.aload_n 1) 1 41 := by decide +kernel
theorem d_P_readEfforts_41 : dI prog_6_method_5_code 41 (.iload_n 3) 1 42 := by decide +kernel
theorem d_P_readEfforts_42 : dI prog_6_method_5_code 42 (.invokevirtual 49) 3 45 := by decide +kernel
theorem d_P_readEfforts_45 : dJ prog_6_method_5_code 45 (.ifCond .ne 5) 5 48 50 := by decide +kernel
theorem d_P_readEfforts_48 : dI prog_6_method_5_code 48 (.iconst 0) 1 49 ∧ Int32.ofInt 0 = 0 := by decide +kernel
theorem d_P_readEfforts_49 : decode prog_6_method_5_code 49 = .ok (.ireturn, 1) := by decide +kernel
theorem d_P_readEfforts_50 : dI prog_6_method_5_code 50 (.aload_n 0) 1 51 := by decide +kernel
theorem d_P_readEfforts_51 : dI prog_6_method_5_code 51 (.invokevirtual 22) 3 54 := by decide +kernel
theorem d_P_readEfforts_54 : dI prog_6_method_5_code 54 (.aload_n 1) 1 55 := by decide +kernel
theorem d_P_readEfforts_55 : dI prog_6_method_5_code 55 (.iload_n 2) 1 56 := by decide +kernel
theorem d_P_readEfforts_56 : dI prog_6_method_5_code 56 (.iload_n 3) 1 57 := by decide +kernel
theorem d_P_readEfforts_57 : dI prog_6_method_5_code 57 (.invokevirtual 58) 3 60 := by decide +kernel
theorem d_P_readEfforts_60 : dI prog_6_method_5_code 60 (.iconst 1) 1 61 ∧ Int32.ofInt 1 = 1 := by decide +kernel
theorem d_P_readEfforts_61 : decode prog_6_method_5_code 61 = .ok (.ireturn, 1) := by decide +kernel
theorem d_P_readSand_0 : dI prog_6_method_6_code 0 (.aload_n 0) 1 1 := by decide +kernel
theorem d_P_readSand_1 : dI prog_6_method_6_code 1 (.invokevirtual 22) 3 4 := by decide +kernel
theorem d_P_readSand_4 : dI prog_6_method_6_code 4 (.aload_n 0) 1 5 := by decide +kernel
theorem d_P_readSand_5 : dI prog_6_method_6_code 5 (.getfield 32) 3 8 := by decide +kernel
theorem d_P_readSand_8 : dI prog_6_method_6_code 8 (.iconst 2) 1 9 ∧ Int32.ofInt 2 = 2 := by decide +kernel
theorem d_P_readSand_9 : dJ prog_6_method_6_code 9 (.if_icmp .ne 13) 13 12 22 := by decide +kernel
theorem d_P_readSand_12 : dI prog_6_method_6_code 12 (.aload_n 0) 1 13 := by decide +kernel
theorem d_P_readSand_13 : dI prog_6_method_6_code 13 (.getfield 55) 3 16 := by decide +kernel
theorem d_P_readSand_16 : dI prog_6_method_6_code 16 (.invokestatic 62) 3 19 := by decide +kernel
theorem d_P_readSand_19 : dJ prog_6_method_6_code 19 (.ifCond .ne 5) 5 22 24 := by decide +kernel
theorem d_P_readSand_22 : dI prog_6_method_6_code 22 (.iconst 0) 1 23 ∧ Int32.ofInt 0 = 0 := by decide +kernel
theorem d_P_readSand_23 : decode prog_6_method_6_code 23 = .ok (.ireturn, 1) := by decide +kernel
theorem d_P_readSand_24 : dI prog_6_method_6_code 24 (.aload_n 0) 1 25 := by decide +kernel
theorem d_P_readSand_25 : dI prog_6_method_6_code 25 (.getfield 55) 3 28 := by decide +kernel
theorem d_P_readSand_28 : dI prog_6_method_6_code 28 (.istore_n 2) 1 29 := by decide +kernel
theorem d_P_readSand_29 : dI prog_6_method_6_code 29 (.aload_n 0) 1 30 := by decide +kernel
theorem d_P_readSand_30 : dI prog_6_method_6_code 30 (.invokevirtual 22) 3 33 := by decide +kernel
theorem d_P_readSand_33 : dI prog_6_method_6_code 33 (.aload_n 0) 1 34 := by decide +kernel
theorem d_P_readSand_34 : dI prog_6_method_6_code 34 (.getfield 32) 3 37 := by decide +kernel
theorem d_P_readSand_37 : dI prog_6_method_6_code 37 (.iconst 2) 1 38 ∧ Int32.ofInt 2 = 2 := by decide +kernel
theorem d_P_readSand_38 : dJ prog_6_method_6_code 38 (.if_icmp .eq 5) 5 41 43 := by decide +kernel
theorem d_P_readSand_41 : dI prog_6_method_6_code 41 (.iconst 0) 1 42 ∧ Int32.ofInt 0 = 0 := by decide +kernel
theorem d_P_readSand_42 : decode prog_6_method_6_code 42 = .ok (.ireturn, 1) := by decide +kernel
theorem d_P_readSand_43 : dI prog_6_method_6_code 43 (.iload_n 2) 1 44 := by decide +kernel
theorem d_P_readSand_44 : dI prog_6_method_6_code 44 (.istore_n 3) 1 45 := by decide +kernel
theorem d_P_readSand_45 : dI prog_6_method_6_code 45 (.iload_n 3) 1 46 := by decide +kernel
theorem d_P_readSand_46 : dI prog_6_method_6_code 46 (.bipush 40) 2 48 ∧ (Int8.ofInt 40).toInt32 = 40 := by decide +kernel
theorem d_P_readSand_48 : dJ prog_6_method_6_code 48 (.if_icmp .ge 42) 42 51 90 := by decide +kernel
theorem d_P_readSand_51 : dI prog_6_method_6_code 51 (.aload_n 0) 1 52 := by decide +kernel
theorem d_P_readSand_52 : dI prog_6_method_6_code 52 (.getfield 32) 3 55 := by decide +kernel
theorem d_P_readSand_55 : dI prog_6_method_6_code 55 (.iconst 2) 1 56 ∧ Int32.ofInt 2 = 2 := by decide +kernel
theorem d_P_readSand_56 : dJ prog_6_method_6_code 56 (.if_icmp .ne 34) 34 59 90 := by decide +kernel
theorem d_P_readSand_59 : dI prog_6_method_6_code 59 (.aload_n 0) 1 60 := by decide +kernel
theorem d_P_readSand_60 : dI prog_6_method_6_code 60 (.getfield 55) 3 63 := by decide +kernel
theorem d_P_readSand_63 : dI prog_6_method_6_code 63 (.bipush 99) 2 65 ∧ (Int8.ofInt 99).toInt32 = 99 := by decide +kernel
theorem d_P_readSand_65 : dJ prog_6_method_6_code 65 (.if_icmp .le 5) 5 68 70 := by decide +kernel
theorem d_P_readSand_68 : dI prog_6_method_6_code 68 (.iconst 0) 1 69 ∧ Int32.ofInt 0 = 0 := by decide +kernel
theorem d_P_readSand_69 : decode prog_6_method_6_code 69 = .ok (.ireturn, 1) := by decide +kernel
theorem d_P_readSand_70 : dI prog_6_method_6_code 70 (.aload_n 1) 1 71 := by decide +kernel
theorem d_P_readSand_71 : dI prog_6_method_6_code 71 (.getfield 65) 3 74 := by decide +kernel
theorem d_P_readSand_74 : dI prog_6_method_6_code 74 (.iload_n 3) 1 75 := by decide +kernel
theorem d_P_readSand_75 : dI prog_6_method_6_code 75 (.aload_n 0) 1 76 := by decide +kernel
theorem d_P_readSand_76 : dI prog_6_method_6_code 76 (.getfield 55) 3 79 := by decide +kernel
theorem d_P_readSand_79 : dI prog_6_method_6_code 79 .iastore 1 80 := by decide +kernel
theorem d_P_readSand_80 : dI prog_6_method_6_code 80 (.aload_n 0) 1 81 := by decide +kernel
theorem d_P_readSand_81 : dI prog_6_method_6_code 81 (.invokevirtual 22) 3 84 := by decide +kernel
theorem d_P_readSand_84 : dI prog_6_method_6_code 84 (.iinc 3 1) 3 87 ∧ Int32.ofInt 1 = 1 := by decide +kernel
theorem d_P_readSand_87 : dJ prog_6_method_6_code 87 (.goto (-42)) (-42) 90 45 := by decide +kernel
theorem d_P_readSand_90 : dI prog_6_method_6_code 90 (.aload_n 0) 1 91 := by decide +kernel
theorem d_P_readSand_91 : dI prog_6_method_6_code 91 (.getfield 32) 3 94 := by decide +kernel
theorem d_P_readSand_94 : dI prog_6_method_6_code 94 (.iconst 2) 1 95 ∧ Int32.ofInt 2 = 2 := by decide +kernel
theorem d_P_readSand_95 : dJ prog_6_method_6_code 95 (.if_icmp .eq 7) 7 98 102 := by decide +kernel
theorem d_P_readSand_98 : dI prog_6_method_6_code 98 (.iconst 1) 1 99 ∧ Int32.ofInt 1 = 1 := by decide +kernel
theorem d_P_readSand_99 : dJ prog_6_method_6_code 99 (.goto 4) 4 102 103 := by decide +kernel
theorem d_P_readSand_102 : dI prog_6_method_6_code 102 (.iconst 0) 1 103 ∧ Int32.ofInt 0 = 0 := by decide +kernel
theorem d_P_readSand_103 : decode prog_6_method_6_code 103 = .ok (.ireturn, 1) := by decide +kernel
theorem d_P_readNumber_0 : dI prog_6_method_7_code 0 (.aload_n 0) 1 1 := by decide +kernel
theorem d_P_readNumber_1 : dI prog_6_method_7_code 1 (.invokevirtual 22) 3 4 := by decide +kernel
theorem d_P_readNumber_4 : dI prog_6_method_7_code 4 (.iload_n 2) 1 5 := by decide +kernel
theorem d_P_readNumber_5 : dI prog_6_method_7_code 5 (.iconst 2) 1 6 ∧ Int32.ofInt 2 = 2 := by decide +kernel
theorem d_P_readNumber_6 : dJ prog_6_method_7_code 6 (.if_icmp .lt 17) 17 9 23 := by decide +kernel
theorem d_P_readNumber_9 : dI prog_6_method_7_code 9 (.iload_n 2) 1 10 := by decide +kernel
theorem d_P_readNumber_10 : dI prog_6_method_7_code 10 (.bipush 6) 2 12 ∧ (Int8.ofInt 6).toInt32 = 6 := by decide +kernel
theorem d_P_readNumber_12 : dJ prog_6_method_7_code 12 (.if_icmp .gt 11) 11 15 23 := by decide +kernel
theorem d_P_readNumber_15 : dI prog_6_method_7_code 15 (.aload_n 0) 1 16 := by decide +kernel
theorem d_P_readNumber_16 : dI prog_6_method_7_code 16 (.getfield 32) 3 19 := by decide +kernel
theorem d_P_readNumber_19 : dI prog_6_method_7_code 19 (.iconst 2) 1 20 ∧ Int32.ofInt 2 = 2 := by decide +kernel
theorem d_P_readNumber_20 : dJ prog_6_method_7_code 20 (.if_icmp .eq 5) 5 23 25 := by decide +kernel
theorem d_P_readNumber_23 : dI prog_6_method_7_code 23 (.iconst 0) 1 24 ∧ Int32.ofInt 0 = 0 := by decide +kernel
theorem d_P_readNumber_24 : decode prog_6_method_7_code 24 = .ok (.ireturn, 1) := by decide +kernel
theorem d_P_readNumber_25 : dI prog_6_method_7_code 25 (.aload_n 0) 1 26 := by decide +kernel
theorem d_P_readNumber_26 : dI prog_6_method_7_code 26 (.getfield 55) 3 29 := by decide +kernel
theorem d_P_readNumber_29 : dI prog_6_method_7_code 29 (.iload_n 2) 1 30 := by decide +kernel
theorem d_P_readNumber_30 : dI prog_6_method_7_code 30 (.invokestatic 68) 3 33 := by decide +kernel
theorem d_P_readNumber_33 : dJ prog_6_method_7_code 33 (.if_icmp .lt 14) 14 36 47 := by decide +kernel
theorem d_P_readNumber_36 : dI prog_6_method_7_code 36 (.aload_n 0) 1 37 := by decide +kernel
theorem d_P_readNumber_37 : dI prog_6_method_7_code 37 (.getfield 55) 3 40 := by decide +kernel
theorem d_P_readNumber_40 : dI prog_6_method_7_code 40 (.iload_n 2) 1 41 := by decide +kernel
theorem d_P_readNumber_41 : dI prog_6_method_7_code 41 (.invokestatic 72) 3 44 := by decide +kernel
theorem d_P_readNumber_44 : dJ prog_6_method_7_code 44 (.if_icmp .le 5) 5 47 49 := by decide +kernel
theorem d_P_readNumber_47 : dI prog_6_method_7_code 47 (.iconst 0) 1 48 ∧ Int32.ofInt 0 = 0 := by decide +kernel
theorem d_P_readNumber_48 : decode prog_6_method_7_code 48 = .ok (.ireturn, 1) := by decide +kernel
theorem d_P_readNumber_49 : dI prog_6_method_7_code 49 (.aload_n 1) 1 50 := by decide +kernel
theorem d_P_readNumber_50 : dI prog_6_method_7_code 50 (.getfield 75) 3 53 := by decide +kernel
theorem d_P_readNumber_53 : dI prog_6_method_7_code 53 (.getfield 79) 3 56 := by decide +kernel
theorem d_P_readNumber_56 : dI prog_6_method_7_code 56 (.iload_n 2) 1 57 := by decide +kernel
theorem d_P_readNumber_57 : dI prog_6_method_7_code 57 (.aload_n 0) 1 58 := by decide +kernel
theorem d_P_readNumber_58 : dI prog_6_method_7_code 58 (.getfield 55) 3 61 := by decide +kernel
theorem d_P_readNumber_61 : dI prog_6_method_7_code 61 .iastore 1 62 := by decide +kernel
theorem d_P_readNumber_62 : dI prog_6_method_7_code 62 (.aload_n 0) 1 63 := by decide +kernel
theorem d_P_readNumber_63 : dI prog_6_method_7_code 63 (.invokevirtual 22) 3 66 := by decide +kernel
theorem d_P_readNumber_66 : dI prog_6_method_7_code 66 (.iconst 1) 1 67 ∧ Int32.ofInt 1 = 1 := by decide +kernel
theorem d_P_readNumber_67 : decode prog_6_method_7_code 67 = .ok (.ireturn, 1) := by decide +kernel
theorem d_P_step_0 : dI prog_6_method_8_code 0 (.aload_n 0) 1 1 := by decide +kernel
theorem d_P_step_1 : dI prog_6_method_8_code 1 (.aload_n 0) 1 2 := by decide +kernel
theorem d_P_step_2 : dI prog_6_method_8_code 2 (.aload_n 0) 1 3 := by decide +kernel
theorem d_P_step_3 : dI prog_6_method_8_code 3 (.getfield 19) 3 6 := by decide +kernel
theorem d_P_step_6 : dI prog_6_method_8_code 6 (.bipush 32) 2 8 ∧ (Int8.ofInt 32).toInt32 = 32 := by decide +kernel
theorem d_P_step_8 : dI prog_6_method_8_code 8 (.bipush 32) 2 10 ∧ (Int8.ofInt 32).toInt32 = 32 := by decide +kernel
theorem d_P_step_10 : dI prog_6_method_8_code 10 (.invokevirtual 84) 3 13 := by decide +kernel
theorem d_P_step_13 : dI prog_6_method_8_code 13 (.putfield 29) 3 16 := by decide +kernel
theorem d_P_step_16 : dI prog_6_method_8_code 16 (.aload_n 0) 1 17 := by decide +kernel
theorem d_P_step_17 : dI prog_6_method_8_code 17 (.aload_n 0) 1 18 := by decide +kernel
theorem d_P_step_18 : dI prog_6_method_8_code 18 (.getfield 29) 3 21 := by decide +kernel
theorem d_P_step_21 : dI prog_6_method_8_code 21 (.putfield 19) 3 24 := by decide +kernel
theorem d_P_step_24 : dI prog_6_method_8_code 24 (.aload_n 0) 1 25 := by decide +kernel
theorem d_P_step_25 : dI prog_6_method_8_code 25 (.getfield 29) 3 28 := by decide +kernel
theorem d_P_step_28 : dI prog_6_method_8_code 28 (.aload_n 0) 1 29 := by decide +kernel
theorem d_P_step_29 : dI prog_6_method_8_code 29 (.getfield 15) 3 32 := by decide +kernel
theorem d_P_step_32 : dJ prog_6_method_8_code 32 (.if_icmp .ge 12) 12 35 44 := by decide +kernel
theorem d_P_step_35 : dI prog_6_method_8_code 35 (.aload_n 0) 1 36 := by decide +kernel
theorem d_P_step_36 : dI prog_6_method_8_code 36 (.getfield 29) 3 39 := by decide +kernel
theorem d_P_step_39 : dI prog_6_method_8_code 39 (.bipush 120) 2 41 ∧ (Int8.ofInt 120).toInt32 = 120 := by decide +kernel
theorem d_P_step_41 : dJ prog_6_method_8_code 41 (.if_icmp .lt 9) 9 44 50 := by decide +kernel
theorem d_P_step_44 : dI prog_6_method_8_code 44 (.aload_n 0) 1 45 := by decide +kernel
theorem d_P_step_45 : dI prog_6_method_8_code 45 (.iconst 0) 1 46 ∧ Int32.ofInt 0 = 0 := by decide +kernel
theorem d_P_step_46 : dI prog_6_method_8_code 46 (.putfield 32) 3 49 := by decide +kernel
theorem d_P_step_49 : decode prog_6_method_8_code 49 = .ok (.return_, 1) := by decide +kernel
theorem d_P_step_50 : dI prog_6_method_8_code 50 (.aload_n 0) 1 51 := by decide +kernel
theorem d_P_step_51 : dI prog_6_method_8_code 51 (.getfield 9) 3 54 := by decide +kernel
theorem d_P_step_54 : dI prog_6_method_8_code 54 (.aload_n 0) 1 55 := by decide +kernel
theorem d_P_step_55 : dI prog_6_method_8_code 55 (.getfield 29) 3 58 := by decide +kernel
theorem d_P_step_58 : dI prog_6_method_8_code 58 .iaload 1 59 := by decide +kernel
theorem d_P_step_59 : dI prog_6_method_8_code 59 (.istore_n 1) 1 60 := by decide +kernel
theorem d_P_step_60 : dI prog_6_method_8_code 60 (.iload_n 1) 1 61 := by decide +kernel
theorem d_P_step_61 : dI prog_6_method_8_code 61 (.bipush 97) 2 63 ∧ (Int8.ofInt 97).toInt32 = 97 := by decide +kernel
theorem d_P_step_63 : dJ prog_6_method_8_code 63 (.if_icmp .lt 33) 33 66 96 := by decide +kernel
theorem d_P_step_66 : dI prog_6_method_8_code 66 (.iload_n 1) 1 67 := by decide +kernel
theorem d_P_step_67 : dI prog_6_method_8_code 67 (.bipush 122) 2 69 ∧ (Int8.ofInt 122).toInt32 = 122 := by decide +kernel
theorem d_P_step_69 : dJ prog_6_method_8_code 69 (.if_icmp .gt 27) 27 72 96 := by decide +kernel
theorem d_P_step_72 : dI prog_6_method_8_code 72 (.aload_n 0) 1 73 := by decide +kernel
theorem d_P_step_73 : dI prog_6_method_8_code 73 (.iconst 1) 1 74 ∧ Int32.ofInt 1 = 1 := by decide +kernel
theorem d_P_step_74 : dI prog_6_method_8_code 74 (.putfield 32) 3 77 := by decide +kernel
theorem d_P_step_77 : dI prog_6_method_8_code 77 (.aload_n 0) 1 78 := by decide +kernel
theorem d_P_step_78 : dI prog_6_method_8_code 78 (.aload_n 0) 1 79 := by decide +kernel
theorem d_P_step_79 : dI prog_6_method_8_code 79 (.aload_n 0) 1 80 := by decide +kernel
theorem d_P_step_80 : dI prog_6_method_8_code 80 (.getfield 29) 3 83 := by decide +kernel
theorem d_P_step_83 : dI prog_6_method_8_code 83 (.bipush 97) 2 85 ∧ (Int8.ofInt 97).toInt32 = 97 := by decide +kernel
theorem d_P_step_85 : dI prog_6_method_8_code 85 (.bipush 122) 2 87 ∧ (Int8.ofInt 122).toInt32 = 122 := by decide +kernel
theorem d_P_step_87 : dI prog_6_method_8_code 87 (.invokevirtual 84) 3 90 := by decide +kernel
theorem d_P_step_90 : dI prog_6_method_8_code 90 (.putfield 19) 3 93 := by decide +kernel
theorem d_P_step_93 : dJ prog_6_method_8_code 93 (.goto 72) 72 96 165 := by decide +kernel
theorem d_P_step_96 : dI prog_6_method_8_code 96 (.iload_n 1) 1 97 := by decide +kernel
theorem d_P_step_97 : dI prog_6_method_8_code 97 (.bipush 48) 2 99 ∧ (Int8.ofInt 48).toInt32 = 48 := by decide +kernel
theorem d_P_step_99 : dJ prog_6_method_8_code 99 (.if_icmp .lt 41) 41 102 140 := by decide +kernel
theorem d_P_step_102 : dI prog_6_method_8_code 102 (.iload_n 1) 1 103 := by decide +kernel
theorem d_P_step_103 : dI prog_6_method_8_code 103 (.bipush 57) 2 105 ∧ (Int8.ofInt 57).toInt32 = 57 := by decide +kernel
theorem d_P_step_105 : dJ prog_6_method_8_code 105 (.if_icmp .gt 35) 35 108 140 := by decide +kernel
theorem d_P_step_108 : dI prog_6_method_8_code 108 (.aload_n 0) 1 109 := by decide +kernel
theorem d_P_step_109 : dI prog_6_method_8_code 109 (.iconst 2) 1 110 ∧ Int32.ofInt 2 = 2 := by decide +kernel
theorem d_P_step_110 : dI prog_6_method_8_code 110 (.putfield 32) 3 113 := by decide +kernel
theorem d_P_step_113 : dI prog_6_method_8_code 113 (.aload_n 0) 1 114 := by decide +kernel
theorem d_P_step_114 : dI prog_6_method_8_code 114 (.aload_n 0) 1 115 := by decide +kernel
theorem d_P_step_115 : dI prog_6_method_8_code 115 (.aload_n 0) 1 116 := by decide +kernel
theorem d_P_step_116 : dI prog_6_method_8_code 116 (.getfield 29) 3 119 := by decide +kernel
theorem d_P_step_119 : dI prog_6_method_8_code 119 (.bipush 48) 2 121 ∧ (Int8.ofInt 48).toInt32 = 48 := by decide +kernel
theorem d_P_step_121 : dI prog_6_method_8_code 121 (.bipush 57) 2 123 ∧ (Int8.ofInt 57).toInt32 = 57 := by decide +kernel
theorem d_P_step_123 : dI prog_6_method_8_code 123 (.invokevirtual 84) 3 126 := by decide +kernel
theorem d_P_step_126 : dI prog_6_method_8_code 126 (.putfield 19) 3 129 := by decide +kernel
theorem d_P_step_129 : dI prog_6_method_8_code 129 (.aload_n 0) 1 130 := by decide +kernel
theorem d_P_step_130 : dI prog_6_method_8_code 130 (.aload_n 0) 1 131 := by decide +kernel
theorem d_P_step_131 : dI prog_6_method_8_code 131 (.invokevirtual 88) 3 134 := by decide +kernel
theorem d_P_step_134 : dI prog_6_method_8_code 134 (.putfield 55) 3 137 := by decide +kernel
theorem d_P_step_137 : dJ prog_6_method_8_code 137 (.goto 28) 28 140 165 := by decide +kernel
theorem d_P_step_140 : dI prog_6_method_8_code 140 (.aload_n 0) 1 141 := by decide +kernel
theorem d_P_step_141 : dI prog_6_method_8_code 141 (.iload_n 1) 1 142 := by decide +kernel
theorem d_P_step_142 : dI prog_6_method_8_code 142 (.bipush 59) 2 144 ∧ (Int8.ofInt 59).toInt32 = 59 := by decide +kernel
theorem d_P_step_144 : dJ prog_6_method_8_code 144 (.if_icmp .ne 7) 7 147 151 := by decide +kernel
theorem d_P_step_147 : dI prog_6_method_8_code 147 (.iconst 3) 1 148 ∧ Int32.ofInt 3 = 3 := by decide +kernel
theorem d_P_step_148 : dJ prog_6_method_8_code 148 (.goto 4) 4 151 152 := by decide +kernel
theorem d_P_step_151 : dI prog_6_method_8_code 151 (.iconst 4) 1 152 ∧ Int32.ofInt 4 = 4 := by decide +kernel
theorem d_P_step_152 : dI prog_6_method_8_code 152 (.putfield 32) 3 155 := by decide +kernel
theorem d_P_step_155 : dI prog_6_method_8_code 155 (.aload_n 0) 1 156 := by decide +kernel
theorem d_P_step_156 : dI prog_6_method_8_code 156 (.aload_n 0) 1 157 := by decide +kernel
theorem d_P_step_157 : dI prog_6_method_8_code 157 (.getfield 29) 3 160 := by decide +kernel
theorem d_P_step_160 : dI prog_6_method_8_code 160 (.iconst 1) 1 161 ∧ Int32.ofInt 1 = 1 := by decide +kernel
theorem d_P_step_161 : dI prog_6_method_8_code 161 .iadd 1 162 := by decide +kernel
theorem d_P_step_162 : dI prog_6_method_8_code 162 (.putfield 19) 3 165 := by decide +kernel
theorem d_P_step_165 : decode prog_6_method_8_code 165 = .ok (.return_, 1) := by decide +kernel
theorem d_P_endOfRun_0 : dI prog_6_method_9_code 0 (.iconst 0) 1 1 ∧ Int32.ofInt 0 = 0 := by decide +kernel
theorem d_P_endOfRun_1 : dI prog_6_method_9_code 1 (.iload_n 1) 1 2 := by decide +kernel
theorem d_P_endOfRun_2 : dI prog_6_method_9_code 2 (.invokestatic 91) 3 5 := by decide +kernel
theorem d_P_endOfRun_5 : dI prog_6_method_9_code 5 (.istore 4) 2 7 := by decide +kernel
theorem d_P_endOfRun_7 : dI prog_6_method_9_code 7 (.iload 4) 2 9 := by decide +kernel
theorem d_P_endOfRun_9 : dI prog_6_method_9_code 9 (.aload_n 0) 1 10 := by decide +kernel
theorem d_P_endOfRun_10 : dI prog_6_method_9_code 10 (.getfield 15) 3 13 := by decide +kernel
theorem d_P_endOfRun_13 : dJ prog_6_method_9_code 13 (.if_icmp .ge 38) 38 16 51 := by decide +kernel
theorem d_P_endOfRun_16 : dI prog_6_method_9_code 16 (.iload 4) 2 18 := by decide +kernel
theorem d_P_endOfRun_18 : dI prog_6_method_9_code 18 (.bipush 120) 2 20 ∧ (Int8.ofInt 120).toInt32 = 120 := by decide +kernel
theorem d_P_endOfRun_20 : dJ prog_6_method_9_code 20 (.if_icmp .ge 31) 31 23 51 := by decide +kernel
theorem d_P_endOfRun_23 : dI prog_6_method_9_code 23 (.aload_n 0) 1 24 := by decide +kernel
theorem d_P_endOfRun_24 : dI prog_6_method_9_code 24 (.getfield 9) 3 27 := by decide +kernel
theorem d_P_endOfRun_27 : dI prog_6_method_9_code 27 (.iload 4) 2 29 := by decide +kernel
theorem d_P_endOfRun_29 : dI prog_6_method_9_code 29 .iaload 1 30 := by decide +kernel
theorem d_P_endOfRun_30 : dI prog_6_method_9_code 30 (.iload_n 2) 1 31 := by decide +kernel
theorem d_P_endOfRun_31 : dJ prog_6_method_9_code 31 (.if_icmp .lt 20) 20 34 51 := by decide +kernel
theorem d_P_endOfRun_34 : dI prog_6_method_9_code 34 (.aload_n 0) 1 35 := by decide +kernel
theorem d_P_endOfRun_35 : dI prog_6_method_9_code 35 (.getfield 9) 3 38 := by decide +kernel
theorem d_P_endOfRun_38 : dI prog_6_method_9_code 38 (.iload 4) 2 40 := by decide +kernel
theorem d_P_endOfRun_40 : dI prog_6_method_9_code 40 .iaload 1 41 := by decide +kernel
theorem d_P_endOfRun_41 : dI prog_6_method_9_code 41 (.iload_n 3) 1 42 := by decide +kernel
theorem d_P_endOfRun_42 : dJ prog_6_method_9_code 42 (.if_icmp .gt 9) 9 45 51 := by decide +kernel
theorem d_P_endOfRun_45 : dI prog_6_method_9_code 45 (.iinc 4 1) 3 48 ∧ Int32.ofInt 1 = 1 := by decide +kernel
theorem d_P_endOfRun_48 : dJ prog_6_method_9_code 48 (.goto (-41)) (-41) 51 7 := by decide +kernel
theorem d_P_endOfRun_51 : dI prog_6_method_9_code 51 (.iload 4) 2 53 := by decide +kernel
theorem d_P_endOfRun_53 : decode prog_6_method_9_code 53 = .ok (.ireturn, 1) := by decide +kernel
theorem d_P_numberRead_0 : dI prog_6_method_10_code 0 (.iconst 0) 1 1 ∧ Int32.ofInt 0 = 0 := by decide +kernel
theorem d_P_numberRead_1 : dI prog_6_method_10_code 1 (.istore_n 1) 1 2 := by decide +kernel
theorem d_P_numberRead_2 : dI prog_6_method_10_code 2 (.aload_n 0) 1 3 := by decide +kernel
theorem d_P_numberRead_3 : dI prog_6_method_10_code 3 (.getfield 29) 3 6 := by decide +kernel
theorem d_P_numberRead_6 : dI prog_6_method_10_code 6 (.istore_n 2) 1 7 := by decide +kernel
theorem d_P_numberRead_7 : dI prog_6_method_10_code 7 (.iload_n 2) 1 8 := by decide +kernel
theorem d_P_numberRead_8 : dI prog_6_method_10_code 8 (.aload_n 0) 1 9 := by decide +kernel
theorem d_P_numberRead_9 : dI prog_6_method_10_code 9 (.getfield 19) 3 12 := by decide +kernel
theorem d_P_numberRead_12 : dJ prog_6_method_10_code 12 (.if_icmp .ge 30) 30 15 42 := by decide +kernel
theorem d_P_numberRead_15 : dI prog_6_method_10_code 15 (.sipush 10000) 3 18 ∧ (Int16.ofInt 10000).toInt32 = 10000 := by decide +kernel
theorem d_P_numberRead_18 : dI prog_6_method_10_code 18 (.iload_n 1) 1 19 := by decide +kernel
theorem d_P_numberRead_19 : dI prog_6_method_10_code 19 (.bipush 10) 2 21 ∧ (Int8.ofInt 10).toInt32 = 10 := by decide +kernel
theorem d_P_numberRead_21 : dI prog_6_method_10_code 21 .imul 1 22 := by decide +kernel
theorem d_P_numberRead_22 : dI prog_6_method_10_code 22 (.aload_n 0) 1 23 := by decide +kernel
theorem d_P_numberRead_23 : dI prog_6_method_10_code 23 (.getfield 9) 3 26 := by decide +kernel
theorem d_P_numberRead_26 : dI prog_6_method_10_code 26 (.iload_n 2) 1 27 := by decide +kernel
theorem d_P_numberRead_27 : dI prog_6_method_10_code 27 .iaload 1 28 := by decide +kernel
theorem d_P_numberRead_28 : dI prog_6_method_10_code 28 .iadd 1 29 := by decide +kernel
theorem d_P_numberRead_29 : dI prog_6_method_10_code 29 (.bipush 48) 2 31 ∧ (Int8.ofInt 48).toInt32 = 48 := by decide +kernel
theorem d_P_numberRead_31 : dI prog_6_method_10_code 31 .isub 1 32 := by decide +kernel
theorem d_P_numberRead_32 : dI prog_6_method_10_code 32 (.invokestatic 97) 3 35 := by decide +kernel
theorem d_P_numberRead_35 : dI prog_6_method_10_code 35 (.istore_n 1) 1 36 := by decide +kernel
theorem d_P_numberRead_36 : dI prog_6_method_10_code 36 (.iinc 2 1) 3 39 ∧ Int32.ofInt 1 = 1 := by decide +kernel
theorem d_P_numberRead_39 : dJ prog_6_method_10_code 39 (.goto (-32)) (-32) 42 7 := by decide +kernel
theorem d_P_numberRead_42 : dI prog_6_method_10_code 42 (.iload_n 1) 1 43 := by decide +kernel
theorem d_P_numberRead_43 : decode prog_6_method_10_code 43 = .ok (.ireturn, 1) := by decide +kernel
theorem d_P_wordRead_0 : dI prog_6_method_11_code 0 (.iconst 0) 1 1 ∧ Int32.ofInt 0 = 0 := by decide +kernel
theorem d_P_wordRead_1 : dI prog_6_method_11_code 1 (.istore_n 1) 1 2 := by decide +kernel
theorem d_P_wordRead_2 : dI prog_6_method_11_code 2 (.iload_n 1) 1 3 := by decide +kernel
theorem d_P_wordRead_3 : dI prog_6_method_11_code 3 (.bipush 14) 2 5 ∧ (Int8.ofInt 14).toInt32 = 14 := by decide +kernel
theorem d_P_wordRead_5 : dJ prog_6_method_11_code 5 (.if_icmp .ge 22) 22 8 27 := by decide +kernel
theorem d_P_wordRead_8 : dI prog_6_method_11_code 8 (.aload_n 0) 1 9 := by decide +kernel
theorem d_P_wordRead_9 : dI prog_6_method_11_code 9 (.iload_n 1) 1 10 := by decide +kernel
theorem d_P_wordRead_10 : dI prog_6_method_11_code 10 (.invokestatic 100) 3 13 := by decide +kernel
theorem d_P_wordRead_13 : dI prog_6_method_11_code 13 (.invokevirtual 104) 3 16 := by decide +kernel
theorem d_P_wordRead_16 : dJ prog_6_method_11_code 16 (.ifCond .eq 5) 5 19 21 := by decide +kernel
theorem d_P_wordRead_19 : dI prog_6_method_11_code 19 (.iload_n 1) 1 20 := by decide +kernel
theorem d_P_wordRead_20 : decode prog_6_method_11_code 20 = .ok (.ireturn, 1) := by decide +kernel
theorem d_P_wordRead_21 : dI prog_6_method_11_code 21 (.iinc 1 1) 3 24 ∧ Int32.ofInt 1 = 1 := by decide +kernel
theorem d_P_wordRead_24 : dJ prog_6_method_11_code 24 (.goto (-22)) (-22) 27 2 := by decide +kernel
theorem d_P_wordRead_27 : dI prog_6_method_11_code 27 (.iconst (-1)) 1 28 ∧ Int32.ofInt (-1) = (-1) := by decide +kernel
theorem d_P_wordRead_28 : decode prog_6_method_11_code 28 = .ok (.ireturn, 1) := by decide +kernel
theorem d_P_spells_0 : dI prog_6_method_12_code 0 (.aload_n 1) 1 1 := by decide +kernel
theorem d_P_spells_1 : dI prog_6_method_12_code 1 (.invokevirtual 108) 3 4 := by decide +kernel
theorem d_P_spells_4 : dI prog_6_method_12_code 4 (.aload_n 0) 1 5 := by decide +kernel
theorem d_P_spells_5 : dI prog_6_method_12_code 5 (.getfield 19) 3 8 := by decide +kernel
theorem d_P_spells_8 : dI prog_6_method_12_code 8 (.aload_n 0) 1 9 := by decide +kernel
theorem d_P_spells_9 : dI prog_6_method_12_code 9 (.getfield 29) 3 12 := by decide +kernel
theorem d_P_spells_12 : dI prog_6_method_12_code 12 .isub 1 13 := by decide +kernel
theorem d_P_spells_13 : dJ prog_6_method_12_code 13 (.if_icmp .eq 5) 5 16 18 := by decide +kernel
theorem d_P_spells_16 : dI prog_6_method_12_code 16 (.iconst 0) 1 17 ∧ Int32.ofInt 0 = 0 := by decide +kernel
theorem d_P_spells_17 : decode prog_6_method_12_code 17 = .ok (.ireturn, 1) := by decide +kernel
theorem d_P_spells_18 : dI prog_6_method_12_code 18 (.iconst 0) 1 19 ∧ Int32.ofInt 0 = 0 := by decide +kernel
theorem d_P_spells_19 : dI prog_6_method_12_code 19 (.istore_n 2) 1 20 := by decide +kernel
theorem d_P_spells_20 : dI prog_6_method_12_code 20 (.iload_n 2) 1 21 := by decide +kernel
theorem d_P_spells_21 : dI prog_6_method_12_code 21 (.aload_n 1) 1 22 := by decide +kernel
theorem d_P_spells_22 : dI prog_6_method_12_code 22 (.invokevirtual 108) 3 25 := by decide +kernel
theorem d_P_spells_25 : dJ prog_6_method_12_code 25 (.if_icmp .ge 30) 30 28 55 := by decide +kernel
theorem d_P_spells_28 : dI prog_6_method_12_code 28 (.aload_n 0) 1 29 := by decide +kernel
theorem d_P_spells_29 : dI prog_6_method_12_code 29 (.getfield 9) 3 32 := by decide +kernel
theorem d_P_spells_32 : dI prog_6_method_12_code 32 (.aload_n 0) 1 33 := by decide +kernel
theorem d_P_spells_33 : dI prog_6_method_12_code 33 (.getfield 29) 3 36 := by decide +kernel
theorem d_P_spells_36 : dI prog_6_method_12_code 36 (.iload_n 2) 1 37 := by decide +kernel
theorem d_P_spells_37 : dI prog_6_method_12_code 37 .iadd 1 38 := by decide +kernel
theorem d_P_spells_38 : dI prog_6_method_12_code 38 .iaload 1 39 := by decide +kernel
theorem d_P_spells_39 : dI prog_6_method_12_code 39 (.aload_n 1) 1 40 := by decide +kernel
theorem d_P_spells_40 : dI prog_6_method_12_code 40 (.iload_n 2) 1 41 := by decide +kernel
theorem d_P_spells_41 : dI prog_6_method_12_code 41 (.invokevirtual 112) 3 44 := by decide +kernel
theorem d_P_spells_44 : dJ prog_6_method_12_code 44 (.if_icmp .eq 5) 5 47 49 := by decide +kernel
theorem d_P_spells_47 : dI prog_6_method_12_code 47 (.iconst 0) 1 48 ∧ Int32.ofInt 0 = 0 := by decide +kernel
theorem d_P_spells_48 : decode prog_6_method_12_code 48 = .ok (.ireturn, 1) := by decide +kernel
theorem d_P_spells_49 : dI prog_6_method_12_code 49 (.iinc 2 1) 3 52 ∧ Int32.ofInt 1 = 1 := by decide +kernel
theorem d_P_spells_52 : dJ prog_6_method_12_code 52 (.goto (-32)) (-32) 55 20 := by decide +kernel
theorem d_P_spells_55 : dI prog_6_method_12_code 55 (.iconst 1) 1 56 ∧ Int32.ofInt 1 = 1 := by decide +kernel
theorem d_P_spells_56 : decode prog_6_method_12_code 56 = .ok (.ireturn, 1) := by decide +kernel
theorem d_P_wordOf_0 : dI prog_6_method_13_code 0 (.iload_n 0) 1 1 := by decide +kernel
theorem d_P_wordOf_1 : decode prog_6_method_13_code 1 = .ok (.tableswitch 106 0 12 #[67, 70, 73, 76, 79, 82, 85, 88, 91, 94, 97, 100, 103], 67) := by decide +kernel
theorem d_P_wordOf_68 : dI prog_6_method_13_code 68 (.ldc 116) 2 70 := by decide +kernel
theorem d_P_wordOf_70 : decode prog_6_method_13_code 70 = .ok (.areturn, 1) := by decide +kernel
theorem d_P_wordOf_71 : dI prog_6_method_13_code 71 (.ldc 118) 2 73 := by decide +kernel
theorem d_P_wordOf_73 : decode prog_6_method_13_code 73 = .ok (.areturn, 1) := by decide +kernel
theorem d_P_wordOf_74 : dI prog_6_method_13_code 74 (.ldc 120) 2 76 := by decide +kernel
theorem d_P_wordOf_76 : decode prog_6_method_13_code 76 = .ok (.areturn, 1) := by decide +kernel
theorem d_P_wordOf_77 : dI prog_6_method_13_code 77 (.ldc 122) 2 79 := by decide +kernel
theorem d_P_wordOf_79 : decode prog_6_method_13_code 79 = .ok (.areturn, 1) := by decide +kernel
theorem d_P_wordOf_80 : dI prog_6_method_13_code 80 (.ldc 124) 2 82 := by decide +kernel
theorem d_P_wordOf_82 : decode prog_6_method_13_code 82 = .ok (.areturn, 1) := by decide +kernel
theorem d_P_wordOf_83 : dI prog_6_method_13_code 83 (.ldc 126) 2 85 := by decide +kernel
theorem d_P_wordOf_85 : decode prog_6_method_13_code 85 = .ok (.areturn, 1) := by decide +kernel
theorem d_P_wordOf_86 : dI prog_6_method_13_code 86 (.ldc 128) 2 88 := by decide +kernel
theorem d_P_wordOf_88 : decode prog_6_method_13_code 88 = .ok (.areturn, 1) := by decide +kernel
theorem d_P_wordOf_89 : dI prog_6_method_13_code 89 (.ldc 130) 2 91 := by decide +kernel
theorem d_P_wordOf_91 : decode prog_6_method_13_code 91 = .ok (.areturn, 1) := by decide +kernel
theorem d_P_wordOf_92 : dI prog_6_method_13_code 92 (.ldc 132) 2 94 := by decide +kernel
theorem d_P_wordOf_94 : decode prog_6_method_13_code 94 = .ok (.areturn, 1) := by decide +kernel
theorem d_P_wordOf_95 : dI prog_6_method_13_code 95 (.ldc 134) 2 97 := by decide +kernel
theorem d_P_wordOf_97 : decode prog_6_method_13_code 97 = .ok (.areturn, 1) := by decide +kernel
theorem d_P_wordOf_98 : dI prog_6_method_13_code 98 (.ldc 136) 2 100 := by decide +kernel
theorem d_P_wordOf_100 : decode prog_6_method_13_code 100 = .ok (.areturn, 1) := by decide +kernel
theorem d_P_wordOf_101 : dI prog_6_method_13_code 101 (.ldc 138) 2 103 := by decide +kernel
theorem d_P_wordOf_103 : decode prog_6_method_13_code 103 = .ok (.areturn, 1) := by decide +kernel
theorem d_P_wordOf_104 : dI prog_6_method_13_code 104 (.ldc 140) 2 106 := by decide +kernel
theorem d_P_wordOf_106 : decode prog_6_method_13_code 106 = .ok (.areturn, 1) := by decide +kernel
theorem d_P_wordOf_107 : dI prog_6_method_13_code 107 (.ldc 142) 2 109 := by decide +kernel
theorem d_P_wordOf_109 : decode prog_6_method_13_code 109 = .ok (.areturn, 1) := by decide +kernel
end
section
theorem d_S_init_0 : dI prog_1_method_1_code 0 (.aload_n 0) 1 1 := by decide +kernel
theorem d_S_init_1 : dI prog_1_method_1_code 1 (.invokespecial 1) 3 4 := by decide +kernel
theorem d_S_init_4 : dI prog_1_method_1_code 4 (.aload_n 0) 1 5 := by decide +kernel
theorem d_S_init_5 : dI prog_1_method_1_code 5 (.new 7) 3 8 := by decide +kernel
theorem d_S_init_8 : dI prog_1_method_1_code 8 .dup 1 9 := by decide +kernel
theorem d_S_init_9 : dI prog_1_method_1_code 9 (.invokespecial 9) 3 12 := by decide +kernel
theorem d_S_init_12 : dI prog_1_method_1_code 12 (.putfield 10) 3 15 := by decide +kernel
theorem d_S_init_15 : dI prog_1_method_1_code 15 (.aload_n 0) 1 16 := by decide +kernel
theorem d_S_init_16 : dI prog_1_method_1_code 16 (.new 7) 3 19 := by decide +kernel
theorem d_S_init_19 : dI prog_1_method_1_code 19 .dup 1 20 := by decide +kernel
theorem d_S_init_20 : dI prog_1_method_1_code 20 (.invokespecial 9) 3 23 := by decide +kernel
theorem d_S_init_23 : dI prog_1_method_1_code 23 (.putfield 16) 3 26 := by decide +kernel
theorem d_S_init_26 : dI prog_1_method_1_code 26 (.aload_n 0) 1 27 := by decide +kernel
theorem d_S_init_27 : dI prog_1_method_1_code 27 (.new 7) 3 30 := by decide +kernel
theorem d_S_init_30 : dI prog_1_method_1_code 30 .dup 1 31 := by decide +kernel
theorem d_S_init_31 : dI prog_1_method_1_code 31 (.invokespecial 9) 3 34 := by decide +kernel
theorem d_S_init_34 : dI prog_1_method_1_code 34 (.putfield 19) 3 37 := by decide +kernel
theorem d_S_init_37 : dI prog_1_method_1_code 37 (.aload_n 0) 1 38 := by decide +kernel
theorem d_S_init_38 : dI prog_1_method_1_code 38 (.aload_n 0) 1 39 := by decide +kernel
theorem d_S_init_39 : dI prog_1_method_1_code 39 (.getfield 10) 3 42 := by decide +kernel
theorem d_S_init_42 : dI prog_1_method_1_code 42 (.getfield 22) 3 45 := by decide +kernel
theorem d_S_init_45 : dI prog_1_method_1_code 45 (.putfield 26) 3 48 := by decide +kernel
theorem d_S_init_48 : dI prog_1_method_1_code 48 (.aload_n 0) 1 49 := by decide +kernel
theorem d_S_init_49 : dI prog_1_method_1_code 49 (.new 27) 3 52 := by decide +kernel
theorem d_S_init_52 : dI prog_1_method_1_code 52 .dup 1 53 := by decide +kernel
theorem d_S_init_53 : dI prog_1_method_1_code 53 (.aload_n 0) 1 54 := by decide +kernel
theorem d_S_init_54 : dI prog_1_method_1_code 54 (.getfield 10) 3 57 := by decide +kernel
theorem d_S_init_57 : dI prog_1_method_1_code 57 (.getfield 29) 3 60 := by decide +kernel
theorem d_S_init_60 : dI prog_1_method_1_code 60 (.invokespecial 33) 3 63 := by decide +kernel
theorem d_S_init_63 : dI prog_1_method_1_code 63 (.putfield 36) 3 66 := by decide +kernel
theorem d_S_init_66 : dI prog_1_method_1_code 66 (.aload_n 0) 1 67 := by decide +kernel
theorem d_S_init_67 : dI prog_1_method_1_code 67 (.new 39) 3 70 := by decide +kernel
theorem d_S_init_70 : dI prog_1_method_1_code 70 .dup 1 71 := by decide +kernel
theorem d_S_init_71 : dI prog_1_method_1_code 71 (.aload_n 0) 1 72 := by decide +kernel
theorem d_S_init_72 : dI prog_1_method_1_code 72 (.getfield 10) 3 75 := by decide +kernel
theorem d_S_init_75 : dI prog_1_method_1_code 75 (.getfield 29) 3 78 := by decide +kernel
theorem d_S_init_78 : dI prog_1_method_1_code 78 (.invokespecial 41) 3 81 := by decide +kernel
theorem d_S_init_81 : dI prog_1_method_1_code 81 (.putfield 42) 3 84 := by decide +kernel
theorem d_S_init_84 : dI prog_1_method_1_code 84 (.aload_n 0) 1 85 := by decide +kernel
theorem d_S_init_85 : dI prog_1_method_1_code 85 (.new 46) 3 88 := by decide +kernel
theorem d_S_init_88 : dI prog_1_method_1_code 88 .dup 1 89 := by decide +kernel
theorem d_S_init_89 : dI prog_1_method_1_code 89 (.invokespecial 48) 3 92 := by decide +kernel
theorem d_S_init_92 : dI prog_1_method_1_code 92 (.putfield 49) 3 95 := by decide +kernel
theorem d_S_init_95 : dI prog_1_method_1_code 95 (.aload_n 0) 1 96 := by decide +kernel
theorem d_S_init_96 : dI prog_1_method_1_code 96 (.iconst 4) 1 97 ∧ Int32.ofInt 4 = 4 := by decide +kernel
theorem d_S_init_97 : dI prog_1_method_1_code 97 (.anewarray 53) 3 100 := by decide +kernel
theorem d_S_init_100 : dI prog_1_method_1_code 100 .dup 1 101 := by decide +kernel
theorem d_S_init_101 : dI prog_1_method_1_code 101 (.iconst 0) 1 102 ∧ Int32.ofInt 0 = 0 := by decide +kernel
theorem d_S_init_102 : dI prog_1_method_1_code 102 (.new 53) 3 105 := by decide +kernel
theorem d_S_init_105 : dI prog_1_method_1_code 105 .dup 1 106 := by decide +kernel
theorem d_S_init_106 : dI prog_1_method_1_code 106 (.invokespecial 55) 3 109 := by decide +kernel
theorem d_S_init_109 : dI prog_1_method_1_code 109 .aastore 1 110 := by decide +kernel
theorem d_S_init_110 : dI prog_1_method_1_code 110 .dup 1 111 := by decide +kernel
theorem d_S_init_111 : dI prog_1_method_1_code 111 (.iconst 1) 1 112 ∧ Int32.ofInt 1 = 1 := by decide +kernel
theorem d_S_init_112 : dI prog_1_method_1_code 112 (.new 53) 3 115 := by decide +kernel
theorem d_S_init_115 : dI prog_1_method_1_code 115 .dup 1 116 := by decide +kernel
theorem d_S_init_116 : dI prog_1_method_1_code 116 (.invokespecial 55) 3 119 := by decide +kernel
theorem d_S_init_119 : dI prog_1_method_1_code 119 .aastore 1 120 := by decide +kernel
theorem d_S_init_120 : dI prog_1_method_1_code 120 .dup 1 121 := by decide +kernel
theorem d_S_init_121 : dI prog_1_method_1_code 121 (.iconst 2) 1 122 ∧ Int32.ofInt 2 = 2 := by decide +kernel
theorem d_S_init_122 : dI prog_1_method_1_code 122 (.new 53) 3 125 := by decide +kernel
theorem d_S_init_125 : dI prog_1_method_1_code 125 .dup 1 126 := by decide +kernel
theorem d_S_init_126 : dI prog_1_method_1_code 126 (.invokespecial 55) 3 129 := by decide +kernel
theorem d_S_init_129 : dI prog_1_method_1_code 129 .aastore 1 130 := by decide +kernel
theorem d_S_init_130 : dI prog_1_method_1_code 130 .dup 1 131 := by decide +kernel
theorem d_S_init_131 : dI prog_1_method_1_code 131 (.iconst 3) 1 132 ∧ Int32.ofInt 3 = 3 := by decide +kernel
theorem d_S_init_132 : dI prog_1_method_1_code 132 (.new 53) 3 135 := by decide +kernel
theorem d_S_init_135 : dI prog_1_method_1_code 135 .dup 1 136 := by decide +kernel
theorem d_S_init_136 : dI prog_1_method_1_code 136 (.invokespecial 55) 3 139 := by decide +kernel
theorem d_S_init_139 : dI prog_1_method_1_code 139 .aastore 1 140 := by decide +kernel
theorem d_S_init_140 : dI prog_1_method_1_code 140 (.putfield 56) 3 143 := by decide +kernel
theorem d_S_init_143 : dI prog_1_method_1_code 143 (.aload_n 0) 1 144 := by decide +kernel
theorem d_S_init_144 : dI prog_1_method_1_code 144 (.bipush 7) 2 146 ∧ (Int8.ofInt 7).toInt32 = 7 := by decide +kernel
theorem d_S_init_146 : dI prog_1_method_1_code 146 (.newarray .int) 2 148 := by decide +kernel
theorem d_S_init_148 : dI prog_1_method_1_code 148 (.putfield 60) 3 151 := by decide +kernel
theorem d_S_init_151 : decode prog_1_method_1_code 151 = .ok (.return_, 1) := by decide +kernel
theorem d_S_sand_0 : dI prog_1_method_2_code 0 (.iload_n 1) 1 1 := by decide +kernel
theorem d_S_sand_1 : dI prog_1_method_2_code 1 (.invokestatic 63) 3 4 := by decide +kernel
theorem d_S_sand_4 : dJ prog_1_method_2_code 4 (.ifCond .eq 13) 13 7 17 := by decide +kernel
theorem d_S_sand_7 : dI prog_1_method_2_code 7 (.iload_n 2) 1 8 := by decide +kernel
theorem d_S_sand_8 : dJ prog_1_method_2_code 8 (.ifCond .lt 9) 9 11 17 := by decide +kernel
theorem d_S_sand_11 : dI prog_1_method_2_code 11 (.iload_n 2) 1 12 := by decide +kernel
theorem d_S_sand_12 : dI prog_1_method_2_code 12 (.bipush 99) 2 14 ∧ (Int8.ofInt 99).toInt32 = 99 := by decide +kernel
theorem d_S_sand_14 : dJ prog_1_method_2_code 14 (.if_icmp .le 9) 9 17 23 := by decide +kernel
theorem d_S_sand_17 : dI prog_1_method_2_code 17 (.aload_n 0) 1 18 := by decide +kernel
theorem d_S_sand_18 : dI prog_1_method_2_code 18 (.iconst 0) 1 19 ∧ Int32.ofInt 0 = 0 := by decide +kernel
theorem d_S_sand_19 : dI prog_1_method_2_code 19 (.invokevirtual 67) 3 22 := by decide +kernel
theorem d_S_sand_22 : decode prog_1_method_2_code 22 = .ok (.ireturn, 1) := by decide +kernel
theorem d_S_sand_23 : dI prog_1_method_2_code 23 (.aload_n 0) 1 24 := by decide +kernel
theorem d_S_sand_24 : dI prog_1_method_2_code 24 (.getfield 10) 3 27 := by decide +kernel
theorem d_S_sand_27 : dI prog_1_method_2_code 27 (.getfield 29) 3 30 := by decide +kernel
theorem d_S_sand_30 : dI prog_1_method_2_code 30 (.iload_n 1) 1 31 := by decide +kernel
theorem d_S_sand_31 : dI prog_1_method_2_code 31 .iaload 1 32 := by decide +kernel
theorem d_S_sand_32 : dI prog_1_method_2_code 32 (.istore_n 3) 1 33 := by decide +kernel
theorem d_S_sand_33 : dI prog_1_method_2_code 33 (.aload_n 0) 1 34 := by decide +kernel
theorem d_S_sand_34 : dI prog_1_method_2_code 34 (.getfield 10) 3 37 := by decide +kernel
theorem d_S_sand_37 : dI prog_1_method_2_code 37 (.getfield 29) 3 40 := by decide +kernel
theorem d_S_sand_40 : dI prog_1_method_2_code 40 (.iload_n 1) 1 41 := by decide +kernel
theorem d_S_sand_41 : dI prog_1_method_2_code 41 (.iload_n 2) 1 42 := by decide +kernel
theorem d_S_sand_42 : dI prog_1_method_2_code 42 .iastore 1 43 := by decide +kernel
theorem d_S_sand_43 : dI prog_1_method_2_code 43 (.iload_n 3) 1 44 := by decide +kernel
theorem d_S_sand_44 : decode prog_1_method_2_code 44 = .ok (.ireturn, 1) := by decide +kernel
theorem d_S_yardOf_0 : dI prog_1_method_3_code 0 (.iload_n 1) 1 1 := by decide +kernel
theorem d_S_yardOf_1 : dI prog_1_method_3_code 1 (.invokestatic 63) 3 4 := by decide +kernel
theorem d_S_yardOf_4 : dJ prog_1_method_3_code 4 (.ifCond .eq 12) 12 7 16 := by decide +kernel
theorem d_S_yardOf_7 : dI prog_1_method_3_code 7 (.iload_n 2) 1 8 := by decide +kernel
theorem d_S_yardOf_8 : dJ prog_1_method_3_code 8 (.ifCond .lt 8) 8 11 16 := by decide +kernel
theorem d_S_yardOf_11 : dI prog_1_method_3_code 11 (.iload_n 2) 1 12 := by decide +kernel
theorem d_S_yardOf_12 : dI prog_1_method_3_code 12 (.iconst 1) 1 13 ∧ Int32.ofInt 1 = 1 := by decide +kernel
theorem d_S_yardOf_13 : dJ prog_1_method_3_code 13 (.if_icmp .le 9) 9 16 22 := by decide +kernel
theorem d_S_yardOf_16 : dI prog_1_method_3_code 16 (.aload_n 0) 1 17 := by decide +kernel
theorem d_S_yardOf_17 : dI prog_1_method_3_code 17 (.iconst 0) 1 18 ∧ Int32.ofInt 0 = 0 := by decide +kernel
theorem d_S_yardOf_18 : dI prog_1_method_3_code 18 (.invokevirtual 67) 3 21 := by decide +kernel
theorem d_S_yardOf_21 : decode prog_1_method_3_code 21 = .ok (.ireturn, 1) := by decide +kernel
theorem d_S_yardOf_22 : dI prog_1_method_3_code 22 (.aload_n 0) 1 23 := by decide +kernel
theorem d_S_yardOf_23 : dI prog_1_method_3_code 23 (.getfield 10) 3 26 := by decide +kernel
theorem d_S_yardOf_26 : dI prog_1_method_3_code 26 (.getfield 29) 3 29 := by decide +kernel
theorem d_S_yardOf_29 : dI prog_1_method_3_code 29 (.iload_n 1) 1 30 := by decide +kernel
theorem d_S_yardOf_30 : dI prog_1_method_3_code 30 .iaload 1 31 := by decide +kernel
theorem d_S_yardOf_31 : dI prog_1_method_3_code 31 (.istore_n 3) 1 32 := by decide +kernel
theorem d_S_yardOf_32 : dI prog_1_method_3_code 32 (.iload_n 2) 1 33 := by decide +kernel
theorem d_S_yardOf_33 : dJ prog_1_method_3_code 33 (.ifCond .ne 7) 7 36 40 := by decide +kernel
theorem d_S_yardOf_36 : dI prog_1_method_3_code 36 (.iload_n 3) 1 37 := by decide +kernel
theorem d_S_yardOf_37 : dJ prog_1_method_3_code 37 (.goto 20) 20 40 57 := by decide +kernel
theorem d_S_yardOf_40 : dI prog_1_method_3_code 40 (.aload_n 0) 1 41 := by decide +kernel
theorem d_S_yardOf_41 : dI prog_1_method_3_code 41 (.getfield 26) 3 44 := by decide +kernel
theorem d_S_yardOf_44 : dI prog_1_method_3_code 44 (.iload_n 3) 1 45 := by decide +kernel
theorem d_S_yardOf_45 : dI prog_1_method_3_code 45 (.aload_n 0) 1 46 := by decide +kernel
theorem d_S_yardOf_46 : dI prog_1_method_3_code 46 (.getfield 26) 3 49 := by decide +kernel
theorem d_S_yardOf_49 : dI prog_1_method_3_code 49 (.getfield 71) 3 52 := by decide +kernel
theorem d_S_yardOf_52 : dI prog_1_method_3_code 52 (.iconst 3) 1 53 ∧ Int32.ofInt 3 = 3 := by decide +kernel
theorem d_S_yardOf_53 : dI prog_1_method_3_code 53 .iaload 1 54 := by decide +kernel
theorem d_S_yardOf_54 : dI prog_1_method_3_code 54 (.invokevirtual 74) 3 57 := by decide +kernel
theorem d_S_yardOf_57 : decode prog_1_method_3_code 57 = .ok (.ireturn, 1) := by decide +kernel
theorem d_S_set_0 : dI prog_1_method_4_code 0 (.iload_n 1) 1 1 := by decide +kernel
theorem d_S_set_1 : dJ prog_1_method_4_code 1 (.ifCond .lt 25) 25 4 26 := by decide +kernel
theorem d_S_set_4 : dI prog_1_method_4_code 4 (.iload_n 1) 1 5 := by decide +kernel
theorem d_S_set_5 : dI prog_1_method_4_code 5 (.bipush 6) 2 7 ∧ (Int8.ofInt 6).toInt32 = 6 := by decide +kernel
theorem d_S_set_7 : dJ prog_1_method_4_code 7 (.if_icmp .gt 19) 19 10 26 := by decide +kernel
theorem d_S_set_10 : dI prog_1_method_4_code 10 (.iload_n 2) 1 11 := by decide +kernel
theorem d_S_set_11 : dI prog_1_method_4_code 11 (.iload_n 1) 1 12 := by decide +kernel
theorem d_S_set_12 : dI prog_1_method_4_code 12 (.invokestatic 78) 3 15 := by decide +kernel
theorem d_S_set_15 : dJ prog_1_method_4_code 15 (.if_icmp .lt 11) 11 18 26 := by decide +kernel
theorem d_S_set_18 : dI prog_1_method_4_code 18 (.iload_n 2) 1 19 := by decide +kernel
theorem d_S_set_19 : dI prog_1_method_4_code 19 (.iload_n 1) 1 20 := by decide +kernel
theorem d_S_set_20 : dI prog_1_method_4_code 20 (.invokestatic 81) 3 23 := by decide +kernel
theorem d_S_set_23 : dJ prog_1_method_4_code 23 (.if_icmp .le 9) 9 26 32 := by decide +kernel
theorem d_S_set_26 : dI prog_1_method_4_code 26 (.aload_n 0) 1 27 := by decide +kernel
theorem d_S_set_27 : dI prog_1_method_4_code 27 (.iconst 0) 1 28 ∧ Int32.ofInt 0 = 0 := by decide +kernel
theorem d_S_set_28 : dI prog_1_method_4_code 28 (.invokevirtual 67) 3 31 := by decide +kernel
theorem d_S_set_31 : decode prog_1_method_4_code 31 = .ok (.ireturn, 1) := by decide +kernel
theorem d_S_set_32 : dI prog_1_method_4_code 32 (.aload_n 0) 1 33 := by decide +kernel
theorem d_S_set_33 : dI prog_1_method_4_code 33 (.getfield 26) 3 36 := by decide +kernel
theorem d_S_set_36 : dI prog_1_method_4_code 36 (.getfield 71) 3 39 := by decide +kernel
theorem d_S_set_39 : dI prog_1_method_4_code 39 (.iload_n 1) 1 40 := by decide +kernel
theorem d_S_set_40 : dI prog_1_method_4_code 40 .iaload 1 41 := by decide +kernel
theorem d_S_set_41 : dI prog_1_method_4_code 41 (.istore_n 3) 1 42 := by decide +kernel
theorem d_S_set_42 : dI prog_1_method_4_code 42 (.aload_n 0) 1 43 := by decide +kernel
theorem d_S_set_43 : dI prog_1_method_4_code 43 (.getfield 26) 3 46 := by decide +kernel
theorem d_S_set_46 : dI prog_1_method_4_code 46 (.getfield 71) 3 49 := by decide +kernel
theorem d_S_set_49 : dI prog_1_method_4_code 49 (.iload_n 1) 1 50 := by decide +kernel
theorem d_S_set_50 : dI prog_1_method_4_code 50 (.iload_n 2) 1 51 := by decide +kernel
theorem d_S_set_51 : dI prog_1_method_4_code 51 .iastore 1 52 := by decide +kernel
theorem d_S_set_52 : dI prog_1_method_4_code 52 (.iload_n 3) 1 53 := by decide +kernel
theorem d_S_set_53 : decode prog_1_method_4_code 53 = .ok (.ireturn, 1) := by decide +kernel
theorem d_S_now_0 : dI prog_1_method_5_code 0 (.iload_n 1) 1 1 := by decide +kernel
theorem d_S_now_1 : dJ prog_1_method_5_code 1 (.ifCond .lt 19) 19 4 20 := by decide +kernel
theorem d_S_now_4 : dI prog_1_method_5_code 4 (.iload_n 1) 1 5 := by decide +kernel
theorem d_S_now_5 : dI prog_1_method_5_code 5 (.bipush 7) 2 7 ∧ (Int8.ofInt 7).toInt32 = 7 := by decide +kernel
theorem d_S_now_7 : dJ prog_1_method_5_code 7 (.if_icmp .gt 13) 13 10 20 := by decide +kernel
theorem d_S_now_10 : dI prog_1_method_5_code 10 (.aload_n 0) 1 11 := by decide +kernel
theorem d_S_now_11 : dI prog_1_method_5_code 11 (.getfield 26) 3 14 := by decide +kernel
theorem d_S_now_14 : dI prog_1_method_5_code 14 (.getfield 71) 3 17 := by decide +kernel
theorem d_S_now_17 : dI prog_1_method_5_code 17 (.iload_n 1) 1 18 := by decide +kernel
theorem d_S_now_18 : dI prog_1_method_5_code 18 .iaload 1 19 := by decide +kernel
theorem d_S_now_19 : decode prog_1_method_5_code 19 = .ok (.ireturn, 1) := by decide +kernel
theorem d_S_now_20 : dI prog_1_method_5_code 20 (.iload_n 1) 1 21 := by decide +kernel
theorem d_S_now_21 : decode prog_1_method_5_code 21 = .ok (.tableswitch 101 8 13 #[39, 47, 55, 63, 79, 90], 39) := by decide +kernel
theorem d_S_now_60 : dI prog_1_method_5_code 60 (.aload_n 0) 1 61 := by decide +kernel
theorem d_S_now_61 : dI prog_1_method_5_code 61 (.getfield 26) 3 64 := by decide +kernel
theorem d_S_now_64 : dI prog_1_method_5_code 64 (.invokevirtual 84) 3 67 := by decide +kernel
theorem d_S_now_67 : decode prog_1_method_5_code 67 = .ok (.ireturn, 1) := by decide +kernel
theorem d_S_now_68 : dI prog_1_method_5_code 68 (.aload_n 0) 1 69 := by decide +kernel
theorem d_S_now_69 : dI prog_1_method_5_code 69 (.getfield 26) 3 72 := by decide +kernel
theorem d_S_now_72 : dI prog_1_method_5_code 72 (.invokevirtual 88) 3 75 := by decide +kernel
theorem d_S_now_75 : decode prog_1_method_5_code 75 = .ok (.ireturn, 1) := by decide +kernel
theorem d_S_now_76 : dI prog_1_method_5_code 76 (.aload_n 0) 1 77 := by decide +kernel
theorem d_S_now_77 : dI prog_1_method_5_code 77 (.getfield 26) 3 80 := by decide +kernel
theorem d_S_now_80 : dI prog_1_method_5_code 80 (.invokevirtual 91) 3 83 := by decide +kernel
theorem d_S_now_83 : decode prog_1_method_5_code 83 = .ok (.ireturn, 1) := by decide +kernel
theorem d_S_now_84 : dI prog_1_method_5_code 84 (.aload_n 0) 1 85 := by decide +kernel
theorem d_S_now_85 : dI prog_1_method_5_code 85 (.getfield 26) 3 88 := by decide +kernel
theorem d_S_now_88 : dI prog_1_method_5_code 88 (.invokevirtual 94) 3 91 := by decide +kernel
theorem d_S_now_91 : dJ prog_1_method_5_code 91 (.ifCond .eq 7) 7 94 98 := by decide +kernel
theorem d_S_now_94 : dI prog_1_method_5_code 94 (.iconst 1) 1 95 ∧ Int32.ofInt 1 = 1 := by decide +kernel
theorem d_S_now_95 : dJ prog_1_method_5_code 95 (.goto 4) 4 98 99 := by decide +kernel
theorem d_S_now_98 : dI prog_1_method_5_code 98 (.iconst 0) 1 99 ∧ Int32.ofInt 0 = 0 := by decide +kernel
theorem d_S_now_99 : decode prog_1_method_5_code 99 = .ok (.ireturn, 1) := by decide +kernel
theorem d_S_now_100 : dI prog_1_method_5_code 100 (.aload_n 0) 1 101 := by decide +kernel
theorem d_S_now_101 : dI prog_1_method_5_code 101 (.getfield 26) 3 104 := by decide +kernel
theorem d_S_now_104 : dI prog_1_method_5_code 104 (.getfield 71) 3 107 := by decide +kernel
theorem d_S_now_107 : dI prog_1_method_5_code 107 (.bipush 8) 2 109 ∧ (Int8.ofInt 8).toInt32 = 8 := by decide +kernel
theorem d_S_now_109 : dI prog_1_method_5_code 109 .iaload 1 110 := by decide +kernel
theorem d_S_now_110 : decode prog_1_method_5_code 110 = .ok (.ireturn, 1) := by decide +kernel
theorem d_S_now_111 : dI prog_1_method_5_code 111 (.aload_n 0) 1 112 := by decide +kernel
theorem d_S_now_112 : dI prog_1_method_5_code 112 (.getfield 26) 3 115 := by decide +kernel
theorem d_S_now_115 : dI prog_1_method_5_code 115 (.getfield 71) 3 118 := by decide +kernel
theorem d_S_now_118 : dI prog_1_method_5_code 118 (.bipush 9) 2 120 ∧ (Int8.ofInt 9).toInt32 = 9 := by decide +kernel
theorem d_S_now_120 : dI prog_1_method_5_code 120 .iaload 1 121 := by decide +kernel
theorem d_S_now_121 : decode prog_1_method_5_code 121 = .ok (.ireturn, 1) := by decide +kernel
theorem d_S_now_122 : dI prog_1_method_5_code 122 (.aload_n 0) 1 123 := by decide +kernel
theorem d_S_now_123 : dI prog_1_method_5_code 123 (.iconst 0) 1 124 ∧ Int32.ofInt 0 = 0 := by decide +kernel
theorem d_S_now_124 : dI prog_1_method_5_code 124 (.invokevirtual 67) 3 127 := by decide +kernel
theorem d_S_now_127 : decode prog_1_method_5_code 127 = .ok (.ireturn, 1) := by decide +kernel
theorem d_S_soft_0 : dI prog_1_method_6_code 0 (.iload_n 1) 1 1 := by decide +kernel
theorem d_S_soft_1 : dJ prog_1_method_6_code 1 (.ifCond .lt 18) 18 4 19 := by decide +kernel
theorem d_S_soft_4 : dI prog_1_method_6_code 4 (.iload_n 1) 1 5 := by decide +kernel
theorem d_S_soft_5 : dI prog_1_method_6_code 5 (.bipush 100) 2 7 ∧ (Int8.ofInt 100).toInt32 = 100 := by decide +kernel
theorem d_S_soft_7 : dJ prog_1_method_6_code 7 (.if_icmp .gt 12) 12 10 19 := by decide +kernel
theorem d_S_soft_10 : dI prog_1_method_6_code 10 (.iload_n 2) 1 11 := by decide +kernel
theorem d_S_soft_11 : dJ prog_1_method_6_code 11 (.ifCond .lt 8) 8 14 19 := by decide +kernel
theorem d_S_soft_14 : dI prog_1_method_6_code 14 (.iload_n 2) 1 15 := by decide +kernel
theorem d_S_soft_15 : dI prog_1_method_6_code 15 (.iconst 1) 1 16 ∧ Int32.ofInt 1 = 1 := by decide +kernel
theorem d_S_soft_16 : dJ prog_1_method_6_code 16 (.if_icmp .le 9) 9 19 25 := by decide +kernel
theorem d_S_soft_19 : dI prog_1_method_6_code 19 (.aload_n 0) 1 20 := by decide +kernel
theorem d_S_soft_20 : dI prog_1_method_6_code 20 (.iconst 0) 1 21 ∧ Int32.ofInt 0 = 0 := by decide +kernel
theorem d_S_soft_21 : dI prog_1_method_6_code 21 (.invokevirtual 67) 3 24 := by decide +kernel
theorem d_S_soft_24 : decode prog_1_method_6_code 24 = .ok (.ireturn, 1) := by decide +kernel
theorem d_S_soft_25 : dI prog_1_method_6_code 25 (.iconst 0) 1 26 ∧ Int32.ofInt 0 = 0 := by decide +kernel
theorem d_S_soft_26 : dI prog_1_method_6_code 26 (.istore_n 3) 1 27 := by decide +kernel
theorem d_S_soft_27 : dI prog_1_method_6_code 27 (.iconst (-1)) 1 28 ∧ Int32.ofInt (-1) = (-1) := by decide +kernel
theorem d_S_soft_28 : dI prog_1_method_6_code 28 (.istore 4) 2 30 := by decide +kernel
theorem d_S_soft_30 : dI prog_1_method_6_code 30 (.iconst 0) 1 31 ∧ Int32.ofInt 0 = 0 := by decide +kernel
theorem d_S_soft_31 : dI prog_1_method_6_code 31 (.istore 5) 2 33 := by decide +kernel
theorem d_S_soft_33 : dI prog_1_method_6_code 33 (.iconst 0) 1 34 ∧ Int32.ofInt 0 = 0 := by decide +kernel
theorem d_S_soft_34 : dI prog_1_method_6_code 34 (.istore 6) 2 36 := by decide +kernel
theorem d_S_soft_36 : dI prog_1_method_6_code 36 (.iload 6) 2 38 := by decide +kernel
theorem d_S_soft_38 : dI prog_1_method_6_code 38 (.bipush 40) 2 40 ∧ (Int8.ofInt 40).toInt32 = 40 := by decide +kernel
theorem d_S_soft_40 : dJ prog_1_method_6_code 40 (.if_icmp .ge 51) 51 43 91 := by decide +kernel
theorem d_S_soft_43 : dI prog_1_method_6_code 43 (.aload_n 0) 1 44 := by decide +kernel
theorem d_S_soft_44 : dI prog_1_method_6_code 44 (.getfield 10) 3 47 := by decide +kernel
theorem d_S_soft_47 : dI prog_1_method_6_code 47 (.getfield 29) 3 50 := by decide +kernel
theorem d_S_soft_50 : dI prog_1_method_6_code 50 (.iload 6) 2 52 := by decide +kernel
theorem d_S_soft_52 : dI prog_1_method_6_code 52 .iaload 1 53 := by decide +kernel
theorem d_S_soft_53 : dI prog_1_method_6_code 53 (.iload_n 1) 1 54 := by decide +kernel
theorem d_S_soft_54 : dJ prog_1_method_6_code 54 (.if_icmp .ge 10) 10 57 64 := by decide +kernel
theorem d_S_soft_57 : dI prog_1_method_6_code 57 (.iload 5) 2 59 := by decide +kernel
theorem d_S_soft_59 : dI prog_1_method_6_code 59 (.iconst 1) 1 60 ∧ Int32.ofInt 1 = 1 := by decide +kernel
theorem d_S_soft_60 : dI prog_1_method_6_code 60 .iadd 1 61 := by decide +kernel
theorem d_S_soft_61 : dJ prog_1_method_6_code 61 (.goto 4) 4 64 65 := by decide +kernel
theorem d_S_soft_64 : dI prog_1_method_6_code 64 (.iconst 0) 1 65 ∧ Int32.ofInt 0 = 0 := by decide +kernel
theorem d_S_soft_65 : dI prog_1_method_6_code 65 (.istore 5) 2 67 := by decide +kernel
theorem d_S_soft_67 : dI prog_1_method_6_code 67 (.iload 5) 2 69 := by decide +kernel
theorem d_S_soft_69 : dI prog_1_method_6_code 69 (.iload_n 3) 1 70 := by decide +kernel
theorem d_S_soft_70 : dJ prog_1_method_6_code 70 (.if_icmp .le 15) 15 73 85 := by decide +kernel
theorem d_S_soft_73 : dI prog_1_method_6_code 73 (.iload 5) 2 75 := by decide +kernel
theorem d_S_soft_75 : dI prog_1_method_6_code 75 (.istore_n 3) 1 76 := by decide +kernel
theorem d_S_soft_76 : dI prog_1_method_6_code 76 (.iload 6) 2 78 := by decide +kernel
theorem d_S_soft_78 : dI prog_1_method_6_code 78 (.iload 5) 2 80 := by decide +kernel
theorem d_S_soft_80 : dI prog_1_method_6_code 80 .isub 1 81 := by decide +kernel
theorem d_S_soft_81 : dI prog_1_method_6_code 81 (.iconst 1) 1 82 ∧ Int32.ofInt 1 = 1 := by decide +kernel
theorem d_S_soft_82 : dI prog_1_method_6_code 82 .iadd 1 83 := by decide +kernel
theorem d_S_soft_83 : dI prog_1_method_6_code 83 (.istore 4) 2 85 := by decide +kernel
theorem d_S_soft_85 : dI prog_1_method_6_code 85 (.iinc 6 1) 3 88 ∧ Int32.ofInt 1 = 1 := by decide +kernel
theorem d_S_soft_88 : dJ prog_1_method_6_code 88 (.goto (-52)) (-52) 91 36 := by decide +kernel
theorem d_S_soft_91 : dI prog_1_method_6_code 91 (.iload_n 2) 1 92 := by decide +kernel
theorem d_S_soft_92 : dJ prog_1_method_6_code 92 (.ifCond .ne 7) 7 95 99 := by decide +kernel
theorem d_S_soft_95 : dI prog_1_method_6_code 95 (.iload_n 3) 1 96 := by decide +kernel
theorem d_S_soft_96 : dJ prog_1_method_6_code 96 (.goto 5) 5 99 101 := by decide +kernel
theorem d_S_soft_99 : dI prog_1_method_6_code 99 (.iload 4) 2 101 := by decide +kernel
theorem d_S_soft_101 : decode prog_1_method_6_code 101 = .ok (.ireturn, 1) := by decide +kernel
theorem d_S_wind_0 : dI prog_1_method_7_code 0 (.iload_n 1) 1 1 := by decide +kernel
theorem d_S_wind_1 : dI prog_1_method_7_code 1 (.iconst 1) 1 2 ∧ Int32.ofInt 1 = 1 := by decide +kernel
theorem d_S_wind_2 : dJ prog_1_method_7_code 2 (.if_icmp .lt 9) 9 5 11 := by decide +kernel
theorem d_S_wind_5 : dI prog_1_method_7_code 5 (.iload_n 1) 1 6 := by decide +kernel
theorem d_S_wind_6 : dI prog_1_method_7_code 6 (.bipush 60) 2 8 ∧ (Int8.ofInt 60).toInt32 = 60 := by decide +kernel
theorem d_S_wind_8 : dJ prog_1_method_7_code 8 (.if_icmp .le 9) 9 11 17 := by decide +kernel
theorem d_S_wind_11 : dI prog_1_method_7_code 11 (.aload_n 0) 1 12 := by decide +kernel
theorem d_S_wind_12 : dI prog_1_method_7_code 12 (.iconst 0) 1 13 ∧ Int32.ofInt 0 = 0 := by decide +kernel
theorem d_S_wind_13 : dI prog_1_method_7_code 13 (.invokevirtual 67) 3 16 := by decide +kernel
theorem d_S_wind_16 : decode prog_1_method_7_code 16 = .ok (.ireturn, 1) := by decide +kernel
theorem d_S_wind_17 : dI prog_1_method_7_code 17 (.iconst 0) 1 18 ∧ Int32.ofInt 0 = 0 := by decide +kernel
theorem d_S_wind_18 : dI prog_1_method_7_code 18 (.istore_n 2) 1 19 := by decide +kernel
theorem d_S_wind_19 : dI prog_1_method_7_code 19 (.iload_n 2) 1 20 := by decide +kernel
theorem d_S_wind_20 : dI prog_1_method_7_code 20 (.iload_n 1) 1 21 := by decide +kernel
theorem d_S_wind_21 : dJ prog_1_method_7_code 21 (.if_icmp .ge 50) 50 24 71 := by decide +kernel
theorem d_S_wind_24 : dI prog_1_method_7_code 24 (.aload_n 0) 1 25 := by decide +kernel
theorem d_S_wind_25 : dI prog_1_method_7_code 25 (.getfield 10) 3 28 := by decide +kernel
theorem d_S_wind_28 : dI prog_1_method_7_code 28 (.invokevirtual 98) 3 31 := by decide +kernel
theorem d_S_wind_31 : dI prog_1_method_7_code 31 (.bipush 40) 2 33 ∧ (Int8.ofInt 40).toInt32 = 40 := by decide +kernel
theorem d_S_wind_33 : dI prog_1_method_7_code 33 .irem 1 34 := by decide +kernel
theorem d_S_wind_34 : dI prog_1_method_7_code 34 (.istore_n 3) 1 35 := by decide +kernel
theorem d_S_wind_35 : dI prog_1_method_7_code 35 (.aload_n 0) 1 36 := by decide +kernel
theorem d_S_wind_36 : dI prog_1_method_7_code 36 (.getfield 10) 3 39 := by decide +kernel
theorem d_S_wind_39 : dI prog_1_method_7_code 39 (.invokevirtual 98) 3 42 := by decide +kernel
theorem d_S_wind_42 : dI prog_1_method_7_code 42 (.bipush 100) 2 44 ∧ (Int8.ofInt 100).toInt32 = 100 := by decide +kernel
theorem d_S_wind_44 : dI prog_1_method_7_code 44 .irem 1 45 := by decide +kernel
theorem d_S_wind_45 : dI prog_1_method_7_code 45 (.istore 4) 2 47 := by decide +kernel
theorem d_S_wind_47 : dI prog_1_method_7_code 47 (.iload_n 3) 1 48 := by decide +kernel
theorem d_S_wind_48 : dI prog_1_method_7_code 48 (.invokestatic 63) 3 51 := by decide +kernel
theorem d_S_wind_51 : dJ prog_1_method_7_code 51 (.ifCond .eq 14) 14 54 65 := by decide +kernel
theorem d_S_wind_54 : dI prog_1_method_7_code 54 (.aload_n 0) 1 55 := by decide +kernel
theorem d_S_wind_55 : dI prog_1_method_7_code 55 (.getfield 10) 3 58 := by decide +kernel
theorem d_S_wind_58 : dI prog_1_method_7_code 58 (.getfield 29) 3 61 := by decide +kernel
theorem d_S_wind_61 : dI prog_1_method_7_code 61 (.iload_n 3) 1 62 := by decide +kernel
theorem d_S_wind_62 : dI prog_1_method_7_code 62 (.iload 4) 2 64 := by decide +kernel
theorem d_S_wind_64 : dI prog_1_method_7_code 64 .iastore 1 65 := by decide +kernel
theorem d_S_wind_65 : dI prog_1_method_7_code 65 (.iinc 2 1) 3 68 ∧ Int32.ofInt 1 = 1 := by decide +kernel
theorem d_S_wind_68 : dJ prog_1_method_7_code 68 (.goto (-49)) (-49) 71 19 := by decide +kernel
theorem d_S_wind_71 : dI prog_1_method_7_code 71 (.aload_n 0) 1 72 := by decide +kernel
theorem d_S_wind_72 : dI prog_1_method_7_code 72 (.getfield 10) 3 75 := by decide +kernel
theorem d_S_wind_75 : dI prog_1_method_7_code 75 (.invokevirtual 101) 3 78 := by decide +kernel
theorem d_S_wind_78 : decode prog_1_method_7_code 78 = .ok (.ireturn, 1) := by decide +kernel
theorem d_S_effort_0 : dI prog_1_method_8_code 0 (.iload_n 1) 1 1 := by decide +kernel
theorem d_S_effort_1 : dI prog_1_method_8_code 1 (.invokestatic 104) 3 4 := by decide +kernel
theorem d_S_effort_4 : dJ prog_1_method_8_code 4 (.ifCond .eq 14) 14 7 18 := by decide +kernel
theorem d_S_effort_7 : dI prog_1_method_8_code 7 (.iload_n 2) 1 8 := by decide +kernel
theorem d_S_effort_8 : dI prog_1_method_8_code 8 (.iconst (-1)) 1 9 ∧ Int32.ofInt (-1) = (-1) := by decide +kernel
theorem d_S_effort_9 : dJ prog_1_method_8_code 9 (.if_icmp .lt 9) 9 12 18 := by decide +kernel
theorem d_S_effort_12 : dI prog_1_method_8_code 12 (.iload_n 2) 1 13 := by decide +kernel
theorem d_S_effort_13 : dI prog_1_method_8_code 13 (.bipush 8) 2 15 ∧ (Int8.ofInt 8).toInt32 = 8 := by decide +kernel
theorem d_S_effort_15 : dJ prog_1_method_8_code 15 (.if_icmp .lt 9) 9 18 24 := by decide +kernel
theorem d_S_effort_18 : dI prog_1_method_8_code 18 (.aload_n 0) 1 19 := by decide +kernel
theorem d_S_effort_19 : dI prog_1_method_8_code 19 (.iconst 0) 1 20 ∧ Int32.ofInt 0 = 0 := by decide +kernel
theorem d_S_effort_20 : dI prog_1_method_8_code 20 (.invokevirtual 67) 3 23 := by decide +kernel
theorem d_S_effort_23 : decode prog_1_method_8_code 23 = .ok (.ireturn, 1) := by decide +kernel
theorem d_S_effort_24 : dI prog_1_method_8_code 24 (.aload_n 0) 1 25 := by decide +kernel
theorem d_S_effort_25 : dI prog_1_method_8_code 25 (.getfield 10) 3 28 := by decide +kernel
theorem d_S_effort_28 : dI prog_1_method_8_code 28 (.getfield 107) 3 31 := by decide +kernel
theorem d_S_effort_31 : dI prog_1_method_8_code 31 (.iload_n 1) 1 32 := by decide +kernel
theorem d_S_effort_32 : dI prog_1_method_8_code 32 (.iload_n 2) 1 33 := by decide +kernel
theorem d_S_effort_33 : dI prog_1_method_8_code 33 .iastore 1 34 := by decide +kernel
theorem d_S_effort_34 : dI prog_1_method_8_code 34 (.iconst 1) 1 35 ∧ Int32.ofInt 1 = 1 := by decide +kernel
theorem d_S_effort_35 : decode prog_1_method_8_code 35 = .ok (.ireturn, 1) := by decide +kernel
theorem d_S_effortOf_0 : dI prog_1_method_9_code 0 (.iload_n 1) 1 1 := by decide +kernel
theorem d_S_effortOf_1 : dI prog_1_method_9_code 1 (.invokestatic 104) 3 4 := by decide +kernel
theorem d_S_effortOf_4 : dJ prog_1_method_9_code 4 (.ifCond .eq 12) 12 7 16 := by decide +kernel
theorem d_S_effortOf_7 : dI prog_1_method_9_code 7 (.iload_n 2) 1 8 := by decide +kernel
theorem d_S_effortOf_8 : dJ prog_1_method_9_code 8 (.ifCond .lt 8) 8 11 16 := by decide +kernel
theorem d_S_effortOf_11 : dI prog_1_method_9_code 11 (.iload_n 2) 1 12 := by decide +kernel
theorem d_S_effortOf_12 : dI prog_1_method_9_code 12 (.iconst 3) 1 13 ∧ Int32.ofInt 3 = 3 := by decide +kernel
theorem d_S_effortOf_13 : dJ prog_1_method_9_code 13 (.if_icmp .le 9) 9 16 22 := by decide +kernel
theorem d_S_effortOf_16 : dI prog_1_method_9_code 16 (.aload_n 0) 1 17 := by decide +kernel
theorem d_S_effortOf_17 : dI prog_1_method_9_code 17 (.iconst 0) 1 18 ∧ Int32.ofInt 0 = 0 := by decide +kernel
theorem d_S_effortOf_18 : dI prog_1_method_9_code 18 (.invokevirtual 67) 3 21 := by decide +kernel
theorem d_S_effortOf_21 : decode prog_1_method_9_code 21 = .ok (.ireturn, 1) := by decide +kernel
theorem d_S_effortOf_22 : dI prog_1_method_9_code 22 (.aload_n 0) 1 23 := by decide +kernel
theorem d_S_effortOf_23 : dI prog_1_method_9_code 23 (.getfield 10) 3 26 := by decide +kernel
theorem d_S_effortOf_26 : dI prog_1_method_9_code 26 (.getfield 107) 3 29 := by decide +kernel
theorem d_S_effortOf_29 : dI prog_1_method_9_code 29 (.iload_n 1) 1 30 := by decide +kernel
theorem d_S_effortOf_30 : dI prog_1_method_9_code 30 .iaload 1 31 := by decide +kernel
theorem d_S_effortOf_31 : dI prog_1_method_9_code 31 (.istore_n 3) 1 32 := by decide +kernel
theorem d_S_effortOf_32 : dI prog_1_method_9_code 32 (.iload_n 3) 1 33 := by decide +kernel
theorem d_S_effortOf_33 : dI prog_1_method_9_code 33 (.iconst (-1)) 1 34 ∧ Int32.ofInt (-1) = (-1) := by decide +kernel
theorem d_S_effortOf_34 : dJ prog_1_method_9_code 34 (.if_icmp .ne 9) 9 37 43 := by decide +kernel
theorem d_S_effortOf_37 : dI prog_1_method_9_code 37 (.aload_n 0) 1 38 := by decide +kernel
theorem d_S_effortOf_38 : dI prog_1_method_9_code 38 (.iconst 3) 1 39 ∧ Int32.ofInt 3 = 3 := by decide +kernel
theorem d_S_effortOf_39 : dI prog_1_method_9_code 39 (.invokevirtual 67) 3 42 := by decide +kernel
theorem d_S_effortOf_42 : decode prog_1_method_9_code 42 = .ok (.ireturn, 1) := by decide +kernel
theorem d_S_effortOf_43 : dI prog_1_method_9_code 43 (.iload_n 2) 1 44 := by decide +kernel
theorem d_S_effortOf_44 : decode prog_1_method_9_code 44 = .ok (.tableswitch 44 0 2 #[28, 30, 39], 28) := by decide +kernel
theorem d_S_effortOf_72 : dI prog_1_method_9_code 72 (.iload_n 3) 1 73 := by decide +kernel
theorem d_S_effortOf_73 : decode prog_1_method_9_code 73 = .ok (.ireturn, 1) := by decide +kernel
theorem d_S_effortOf_74 : dI prog_1_method_9_code 74 (.aload_n 0) 1 75 := by decide +kernel
theorem d_S_effortOf_75 : dI prog_1_method_9_code 75 (.getfield 26) 3 78 := by decide +kernel
theorem d_S_effortOf_78 : dI prog_1_method_9_code 78 (.iload_n 3) 1 79 := by decide +kernel
theorem d_S_effortOf_79 : dI prog_1_method_9_code 79 (.invokevirtual 110) 3 82 := by decide +kernel
theorem d_S_effortOf_82 : decode prog_1_method_9_code 82 = .ok (.ireturn, 1) := by decide +kernel
theorem d_S_effortOf_83 : dI prog_1_method_9_code 83 (.iload_n 3) 1 84 := by decide +kernel
theorem d_S_effortOf_84 : dI prog_1_method_9_code 84 (.invokestatic 113) 3 87 := by decide +kernel
theorem d_S_effortOf_87 : decode prog_1_method_9_code 87 = .ok (.ireturn, 1) := by decide +kernel
theorem d_S_effortOf_88 : dI prog_1_method_9_code 88 (.aload_n 0) 1 89 := by decide +kernel
theorem d_S_effortOf_89 : dI prog_1_method_9_code 89 (.getfield 26) 3 92 := by decide +kernel
theorem d_S_effortOf_92 : dI prog_1_method_9_code 92 (.iload_n 3) 1 93 := by decide +kernel
theorem d_S_effortOf_93 : dI prog_1_method_9_code 93 (.invokevirtual 116) 3 96 := by decide +kernel
theorem d_S_effortOf_96 : decode prog_1_method_9_code 96 = .ok (.ireturn, 1) := by decide +kernel
theorem d_S_go_0 : dI prog_1_method_10_code 0 (.iload_n 1) 1 1 := by decide +kernel
theorem d_S_go_1 : dI prog_1_method_10_code 1 (.invokestatic 104) 3 4 := by decide +kernel
theorem d_S_go_4 : dJ prog_1_method_10_code 4 (.ifCond .ne 9) 9 7 13 := by decide +kernel
theorem d_S_go_7 : dI prog_1_method_10_code 7 (.aload_n 0) 1 8 := by decide +kernel
theorem d_S_go_8 : dI prog_1_method_10_code 8 (.iconst 0) 1 9 ∧ Int32.ofInt 0 = 0 := by decide +kernel
theorem d_S_go_9 : dI prog_1_method_10_code 9 (.invokevirtual 67) 3 12 := by decide +kernel
theorem d_S_go_12 : decode prog_1_method_10_code 12 = .ok (.ireturn, 1) := by decide +kernel
theorem d_S_go_13 : dI prog_1_method_10_code 13 (.aload_n 0) 1 14 := by decide +kernel
theorem d_S_go_14 : dI prog_1_method_10_code 14 (.getfield 10) 3 17 := by decide +kernel
theorem d_S_go_17 : dI prog_1_method_10_code 17 (.getfield 107) 3 20 := by decide +kernel
theorem d_S_go_20 : dI prog_1_method_10_code 20 (.iload_n 1) 1 21 := by decide +kernel
theorem d_S_go_21 : dI prog_1_method_10_code 21 .iaload 1 22 := by decide +kernel
theorem d_S_go_22 : dI prog_1_method_10_code 22 (.istore_n 2) 1 23 := by decide +kernel
theorem d_S_go_23 : dI prog_1_method_10_code 23 (.iload_n 2) 1 24 := by decide +kernel
theorem d_S_go_24 : dI prog_1_method_10_code 24 (.iconst (-1)) 1 25 ∧ Int32.ofInt (-1) = (-1) := by decide +kernel
theorem d_S_go_25 : dJ prog_1_method_10_code 25 (.if_icmp .ne 9) 9 28 34 := by decide +kernel
theorem d_S_go_28 : dI prog_1_method_10_code 28 (.aload_n 0) 1 29 := by decide +kernel
theorem d_S_go_29 : dI prog_1_method_10_code 29 (.iconst 3) 1 30 ∧ Int32.ofInt 3 = 3 := by decide +kernel
theorem d_S_go_30 : dI prog_1_method_10_code 30 (.invokevirtual 67) 3 33 := by decide +kernel
theorem d_S_go_33 : decode prog_1_method_10_code 33 = .ok (.ireturn, 1) := by decide +kernel
theorem d_S_go_34 : dI prog_1_method_10_code 34 (.aload_n 0) 1 35 := by decide +kernel
theorem d_S_go_35 : dI prog_1_method_10_code 35 (.getfield 26) 3 38 := by decide +kernel
theorem d_S_go_38 : dI prog_1_method_10_code 38 (.getfield 71) 3 41 := by decide +kernel
theorem d_S_go_41 : dI prog_1_method_10_code 41 (.iconst 0) 1 42 ∧ Int32.ofInt 0 = 0 := by decide +kernel
theorem d_S_go_42 : dI prog_1_method_10_code 42 .iaload 1 43 := by decide +kernel
theorem d_S_go_43 : dI prog_1_method_10_code 43 (.istore_n 3) 1 44 := by decide +kernel
theorem d_S_go_44 : dI prog_1_method_10_code 44 (.aload_n 0) 1 45 := by decide +kernel
theorem d_S_go_45 : dI prog_1_method_10_code 45 (.getfield 26) 3 48 := by decide +kernel
theorem d_S_go_48 : dI prog_1_method_10_code 48 (.iload_n 2) 1 49 := by decide +kernel
theorem d_S_go_49 : dI prog_1_method_10_code 49 (.invokevirtual 119) 3 52 := by decide +kernel
theorem d_S_go_52 : dJ prog_1_method_10_code 52 (.ifCond .ne 9) 9 55 61 := by decide +kernel
theorem d_S_go_55 : dI prog_1_method_10_code 55 (.aload_n 0) 1 56 := by decide +kernel
theorem d_S_go_56 : dI prog_1_method_10_code 56 (.iconst 4) 1 57 ∧ Int32.ofInt 4 = 4 := by decide +kernel
theorem d_S_go_57 : dI prog_1_method_10_code 57 (.invokevirtual 67) 3 60 := by decide +kernel
theorem d_S_go_60 : decode prog_1_method_10_code 60 = .ok (.ireturn, 1) := by decide +kernel
theorem d_S_go_61 : dI prog_1_method_10_code 61 (.aload_n 0) 1 62 := by decide +kernel
theorem d_S_go_62 : dI prog_1_method_10_code 62 (.getfield 26) 3 65 := by decide +kernel
theorem d_S_go_65 : dI prog_1_method_10_code 65 (.getfield 71) 3 68 := by decide +kernel
theorem d_S_go_68 : dI prog_1_method_10_code 68 (.iconst 0) 1 69 ∧ Int32.ofInt 0 = 0 := by decide +kernel
theorem d_S_go_69 : dI prog_1_method_10_code 69 .iaload 1 70 := by decide +kernel
theorem d_S_go_70 : dI prog_1_method_10_code 70 (.iload_n 3) 1 71 := by decide +kernel
theorem d_S_go_71 : dI prog_1_method_10_code 71 .isub 1 72 := by decide +kernel
theorem d_S_go_72 : decode prog_1_method_10_code 72 = .ok (.ireturn, 1) := by decide +kernel
theorem d_S_gives_0 : dI prog_1_method_11_code 0 (.iload_n 1) 1 1 := by decide +kernel
theorem d_S_gives_1 : dI prog_1_method_11_code 1 (.invokestatic 104) 3 4 := by decide +kernel
theorem d_S_gives_4 : dJ prog_1_method_11_code 4 (.ifCond .eq 12) 12 7 16 := by decide +kernel
theorem d_S_gives_7 : dI prog_1_method_11_code 7 (.iload_n 2) 1 8 := by decide +kernel
theorem d_S_gives_8 : dJ prog_1_method_11_code 8 (.ifCond .lt 8) 8 11 16 := by decide +kernel
theorem d_S_gives_11 : dI prog_1_method_11_code 11 (.iload_n 2) 1 12 := by decide +kernel
theorem d_S_gives_12 : dI prog_1_method_11_code 12 (.iconst 3) 1 13 ∧ Int32.ofInt 3 = 3 := by decide +kernel
theorem d_S_gives_13 : dJ prog_1_method_11_code 13 (.if_icmp .le 9) 9 16 22 := by decide +kernel
theorem d_S_gives_16 : dI prog_1_method_11_code 16 (.aload_n 0) 1 17 := by decide +kernel
theorem d_S_gives_17 : dI prog_1_method_11_code 17 (.iconst 0) 1 18 ∧ Int32.ofInt 0 = 0 := by decide +kernel
theorem d_S_gives_18 : dI prog_1_method_11_code 18 (.invokevirtual 67) 3 21 := by decide +kernel
theorem d_S_gives_21 : decode prog_1_method_11_code 21 = .ok (.ireturn, 1) := by decide +kernel
theorem d_S_gives_22 : dI prog_1_method_11_code 22 (.aload_n 0) 1 23 := by decide +kernel
theorem d_S_gives_23 : dI prog_1_method_11_code 23 (.getfield 10) 3 26 := by decide +kernel
theorem d_S_gives_26 : dI prog_1_method_11_code 26 (.getfield 107) 3 29 := by decide +kernel
theorem d_S_gives_29 : dI prog_1_method_11_code 29 (.iload_n 1) 1 30 := by decide +kernel
theorem d_S_gives_30 : dI prog_1_method_11_code 30 .iaload 1 31 := by decide +kernel
theorem d_S_gives_31 : dI prog_1_method_11_code 31 (.istore_n 3) 1 32 := by decide +kernel
theorem d_S_gives_32 : dI prog_1_method_11_code 32 (.iload_n 3) 1 33 := by decide +kernel
theorem d_S_gives_33 : dI prog_1_method_11_code 33 (.iconst (-1)) 1 34 ∧ Int32.ofInt (-1) = (-1) := by decide +kernel
theorem d_S_gives_34 : dJ prog_1_method_11_code 34 (.if_icmp .ne 9) 9 37 43 := by decide +kernel
theorem d_S_gives_37 : dI prog_1_method_11_code 37 (.aload_n 0) 1 38 := by decide +kernel
theorem d_S_gives_38 : dI prog_1_method_11_code 38 (.iconst 3) 1 39 ∧ Int32.ofInt 3 = 3 := by decide +kernel
theorem d_S_gives_39 : dI prog_1_method_11_code 39 (.invokevirtual 67) 3 42 := by decide +kernel
theorem d_S_gives_42 : decode prog_1_method_11_code 42 = .ok (.ireturn, 1) := by decide +kernel
theorem d_S_gives_43 : dI prog_1_method_11_code 43 (.aload_n 0) 1 44 := by decide +kernel
theorem d_S_gives_44 : dI prog_1_method_11_code 44 (.getfield 36) 3 47 := by decide +kernel
theorem d_S_gives_47 : dI prog_1_method_11_code 47 (.aload_n 0) 1 48 := by decide +kernel
theorem d_S_gives_48 : dI prog_1_method_11_code 48 (.getfield 26) 3 51 := by decide +kernel
theorem d_S_gives_51 : dI prog_1_method_11_code 51 (.invokevirtual 122) 3 54 := by decide +kernel
theorem d_S_gives_54 : dI prog_1_method_11_code 54 (.aload_n 0) 1 55 := by decide +kernel
theorem d_S_gives_55 : dI prog_1_method_11_code 55 (.getfield 36) 3 58 := by decide +kernel
theorem d_S_gives_58 : dI prog_1_method_11_code 58 (.iload_n 3) 1 59 := by decide +kernel
theorem d_S_gives_59 : dI prog_1_method_11_code 59 (.invokevirtual 119) 3 62 := by decide +kernel
theorem d_S_gives_62 : dJ prog_1_method_11_code 62 (.ifCond .ne 9) 9 65 71 := by decide +kernel
theorem d_S_gives_65 : dI prog_1_method_11_code 65 (.aload_n 0) 1 66 := by decide +kernel
theorem d_S_gives_66 : dI prog_1_method_11_code 66 (.iconst 4) 1 67 ∧ Int32.ofInt 4 = 4 := by decide +kernel
theorem d_S_gives_67 : dI prog_1_method_11_code 67 (.invokevirtual 67) 3 70 := by decide +kernel
theorem d_S_gives_70 : decode prog_1_method_11_code 70 = .ok (.ireturn, 1) := by decide +kernel
theorem d_S_gives_71 : dI prog_1_method_11_code 71 (.iload_n 2) 1 72 := by decide +kernel
theorem d_S_gives_72 : decode prog_1_method_11_code 72 = .ok (.tableswitch 69 0 2 #[28, 41, 55], 28) := by decide +kernel
theorem d_S_gives_100 : dI prog_1_method_11_code 100 (.aload_n 0) 1 101 := by decide +kernel
theorem d_S_gives_101 : dI prog_1_method_11_code 101 (.getfield 36) 3 104 := by decide +kernel
theorem d_S_gives_104 : dI prog_1_method_11_code 104 (.aload_n 0) 1 105 := by decide +kernel
theorem d_S_gives_105 : dI prog_1_method_11_code 105 (.getfield 26) 3 108 := by decide +kernel
theorem d_S_gives_108 : dI prog_1_method_11_code 108 (.iconst 0) 1 109 ∧ Int32.ofInt 0 = 0 := by decide +kernel
theorem d_S_gives_109 : dI prog_1_method_11_code 109 (.invokevirtual 126) 3 112 := by decide +kernel
theorem d_S_gives_112 : decode prog_1_method_11_code 112 = .ok (.ireturn, 1) := by decide +kernel
theorem d_S_gives_113 : dI prog_1_method_11_code 113 (.aload_n 0) 1 114 := by decide +kernel
theorem d_S_gives_114 : dI prog_1_method_11_code 114 (.getfield 36) 3 117 := by decide +kernel
theorem d_S_gives_117 : dI prog_1_method_11_code 117 (.aload_n 0) 1 118 := by decide +kernel
theorem d_S_gives_118 : dI prog_1_method_11_code 118 (.getfield 26) 3 121 := by decide +kernel
theorem d_S_gives_121 : dI prog_1_method_11_code 121 (.bipush 7) 2 123 ∧ (Int8.ofInt 7).toInt32 = 7 := by decide +kernel
theorem d_S_gives_123 : dI prog_1_method_11_code 123 (.invokevirtual 126) 3 126 := by decide +kernel
theorem d_S_gives_126 : decode prog_1_method_11_code 126 = .ok (.ireturn, 1) := by decide +kernel
theorem d_S_gives_127 : dI prog_1_method_11_code 127 (.aload_n 0) 1 128 := by decide +kernel
theorem d_S_gives_128 : dI prog_1_method_11_code 128 (.getfield 36) 3 131 := by decide +kernel
theorem d_S_gives_131 : dI prog_1_method_11_code 131 (.aload_n 0) 1 132 := by decide +kernel
theorem d_S_gives_132 : dI prog_1_method_11_code 132 (.getfield 26) 3 135 := by decide +kernel
theorem d_S_gives_135 : dI prog_1_method_11_code 135 (.bipush 8) 2 137 ∧ (Int8.ofInt 8).toInt32 = 8 := by decide +kernel
theorem d_S_gives_137 : dI prog_1_method_11_code 137 (.invokevirtual 126) 3 140 := by decide +kernel
theorem d_S_gives_140 : decode prog_1_method_11_code 140 = .ok (.ireturn, 1) := by decide +kernel
theorem d_S_gives_141 : dI prog_1_method_11_code 141 (.aload_n 0) 1 142 := by decide +kernel
theorem d_S_gives_142 : dI prog_1_method_11_code 142 (.getfield 36) 3 145 := by decide +kernel
theorem d_S_gives_145 : dI prog_1_method_11_code 145 (.getfield 71) 3 148 := by decide +kernel
theorem d_S_gives_148 : dI prog_1_method_11_code 148 (.iconst 1) 1 149 ∧ Int32.ofInt 1 = 1 := by decide +kernel
theorem d_S_gives_149 : dI prog_1_method_11_code 149 .iaload 1 150 := by decide +kernel
theorem d_S_gives_150 : decode prog_1_method_11_code 150 = .ok (.ireturn, 1) := by decide +kernel
theorem d_S_lasts_0 : dI prog_1_method_12_code 0 (.iload_n 1) 1 1 := by decide +kernel
theorem d_S_lasts_1 : dI prog_1_method_12_code 1 (.invokestatic 104) 3 4 := by decide +kernel
theorem d_S_lasts_4 : dJ prog_1_method_12_code 4 (.ifCond .ne 9) 9 7 13 := by decide +kernel
theorem d_S_lasts_7 : dI prog_1_method_12_code 7 (.aload_n 0) 1 8 := by decide +kernel
theorem d_S_lasts_8 : dI prog_1_method_12_code 8 (.iconst 0) 1 9 ∧ Int32.ofInt 0 = 0 := by decide +kernel
theorem d_S_lasts_9 : dI prog_1_method_12_code 9 (.invokevirtual 67) 3 12 := by decide +kernel
theorem d_S_lasts_12 : decode prog_1_method_12_code 12 = .ok (.ireturn, 1) := by decide +kernel
theorem d_S_lasts_13 : dI prog_1_method_12_code 13 (.aload_n 0) 1 14 := by decide +kernel
theorem d_S_lasts_14 : dI prog_1_method_12_code 14 (.getfield 10) 3 17 := by decide +kernel
theorem d_S_lasts_17 : dI prog_1_method_12_code 17 (.getfield 107) 3 20 := by decide +kernel
theorem d_S_lasts_20 : dI prog_1_method_12_code 20 (.iload_n 1) 1 21 := by decide +kernel
theorem d_S_lasts_21 : dI prog_1_method_12_code 21 .iaload 1 22 := by decide +kernel
theorem d_S_lasts_22 : dI prog_1_method_12_code 22 (.istore_n 2) 1 23 := by decide +kernel
theorem d_S_lasts_23 : dI prog_1_method_12_code 23 (.iload_n 2) 1 24 := by decide +kernel
theorem d_S_lasts_24 : dI prog_1_method_12_code 24 (.iconst (-1)) 1 25 ∧ Int32.ofInt (-1) = (-1) := by decide +kernel
theorem d_S_lasts_25 : dJ prog_1_method_12_code 25 (.if_icmp .ne 9) 9 28 34 := by decide +kernel
theorem d_S_lasts_28 : dI prog_1_method_12_code 28 (.aload_n 0) 1 29 := by decide +kernel
theorem d_S_lasts_29 : dI prog_1_method_12_code 29 (.iconst 3) 1 30 ∧ Int32.ofInt 3 = 3 := by decide +kernel
theorem d_S_lasts_30 : dI prog_1_method_12_code 30 (.invokevirtual 67) 3 33 := by decide +kernel
theorem d_S_lasts_33 : decode prog_1_method_12_code 33 = .ok (.ireturn, 1) := by decide +kernel
theorem d_S_lasts_34 : dI prog_1_method_12_code 34 (.aload_n 0) 1 35 := by decide +kernel
theorem d_S_lasts_35 : dI prog_1_method_12_code 35 (.getfield 36) 3 38 := by decide +kernel
theorem d_S_lasts_38 : dI prog_1_method_12_code 38 (.aload_n 0) 1 39 := by decide +kernel
theorem d_S_lasts_39 : dI prog_1_method_12_code 39 (.getfield 26) 3 42 := by decide +kernel
theorem d_S_lasts_42 : dI prog_1_method_12_code 42 (.invokevirtual 122) 3 45 := by decide +kernel
theorem d_S_lasts_45 : dI prog_1_method_12_code 45 (.iconst 0) 1 46 ∧ Int32.ofInt 0 = 0 := by decide +kernel
theorem d_S_lasts_46 : dI prog_1_method_12_code 46 (.istore_n 3) 1 47 := by decide +kernel
theorem d_S_lasts_47 : dI prog_1_method_12_code 47 (.iload_n 3) 1 48 := by decide +kernel
theorem d_S_lasts_48 : dI prog_1_method_12_code 48 (.bipush 50) 2 50 ∧ (Int8.ofInt 50).toInt32 = 50 := by decide +kernel
theorem d_S_lasts_50 : dJ prog_1_method_12_code 50 (.if_icmp .ge 20) 20 53 70 := by decide +kernel
theorem d_S_lasts_53 : dI prog_1_method_12_code 53 (.aload_n 0) 1 54 := by decide +kernel
theorem d_S_lasts_54 : dI prog_1_method_12_code 54 (.getfield 36) 3 57 := by decide +kernel
theorem d_S_lasts_57 : dI prog_1_method_12_code 57 (.iload_n 2) 1 58 := by decide +kernel
theorem d_S_lasts_58 : dI prog_1_method_12_code 58 (.invokevirtual 119) 3 61 := by decide +kernel
theorem d_S_lasts_61 : dJ prog_1_method_12_code 61 (.ifCond .eq 9) 9 64 70 := by decide +kernel
theorem d_S_lasts_64 : dI prog_1_method_12_code 64 (.iinc 3 1) 3 67 ∧ Int32.ofInt 1 = 1 := by decide +kernel
theorem d_S_lasts_67 : dJ prog_1_method_12_code 67 (.goto (-20)) (-20) 70 47 := by decide +kernel
theorem d_S_lasts_70 : dI prog_1_method_12_code 70 (.iload_n 3) 1 71 := by decide +kernel
theorem d_S_lasts_71 : decode prog_1_method_12_code 71 = .ok (.ireturn, 1) := by decide +kernel
theorem d_S_out_0 : dI prog_1_method_13_code 0 (.iload_n 1) 1 1 := by decide +kernel
theorem d_S_out_1 : dI prog_1_method_13_code 1 (.invokestatic 104) 3 4 := by decide +kernel
theorem d_S_out_4 : dJ prog_1_method_13_code 4 (.ifCond .ne 9) 9 7 13 := by decide +kernel
theorem d_S_out_7 : dI prog_1_method_13_code 7 (.aload_n 0) 1 8 := by decide +kernel
theorem d_S_out_8 : dI prog_1_method_13_code 8 (.iconst 0) 1 9 ∧ Int32.ofInt 0 = 0 := by decide +kernel
theorem d_S_out_9 : dI prog_1_method_13_code 9 (.invokevirtual 67) 3 12 := by decide +kernel
theorem d_S_out_12 : decode prog_1_method_13_code 12 = .ok (.ireturn, 1) := by decide +kernel
theorem d_S_out_13 : dI prog_1_method_13_code 13 (.aload_n 0) 1 14 := by decide +kernel
theorem d_S_out_14 : dI prog_1_method_13_code 14 (.getfield 10) 3 17 := by decide +kernel
theorem d_S_out_17 : dI prog_1_method_13_code 17 (.getfield 107) 3 20 := by decide +kernel
theorem d_S_out_20 : dI prog_1_method_13_code 20 (.iload_n 1) 1 21 := by decide +kernel
theorem d_S_out_21 : dI prog_1_method_13_code 21 .iaload 1 22 := by decide +kernel
theorem d_S_out_22 : dI prog_1_method_13_code 22 (.istore_n 2) 1 23 := by decide +kernel
theorem d_S_out_23 : dI prog_1_method_13_code 23 (.iload_n 2) 1 24 := by decide +kernel
theorem d_S_out_24 : dI prog_1_method_13_code 24 (.iconst (-1)) 1 25 ∧ Int32.ofInt (-1) = (-1) := by decide +kernel
theorem d_S_out_25 : dJ prog_1_method_13_code 25 (.if_icmp .ne 9) 9 28 34 := by decide +kernel
theorem d_S_out_28 : dI prog_1_method_13_code 28 (.aload_n 0) 1 29 := by decide +kernel
theorem d_S_out_29 : dI prog_1_method_13_code 29 (.iconst 3) 1 30 ∧ Int32.ofInt 3 = 3 := by decide +kernel
theorem d_S_out_30 : dI prog_1_method_13_code 30 (.invokevirtual 67) 3 33 := by decide +kernel
theorem d_S_out_33 : decode prog_1_method_13_code 33 = .ok (.ireturn, 1) := by decide +kernel
theorem d_S_out_34 : dI prog_1_method_13_code 34 (.aload_n 0) 1 35 := by decide +kernel
theorem d_S_out_35 : dI prog_1_method_13_code 35 (.iload_n 2) 1 36 := by decide +kernel
theorem d_S_out_36 : dI prog_1_method_13_code 36 (.bipush 50) 2 38 ∧ (Int8.ofInt 50).toInt32 = 50 := by decide +kernel
theorem d_S_out_38 : dI prog_1_method_13_code 38 (.invokevirtual 130) 3 41 := by decide +kernel
theorem d_S_out_41 : dI prog_1_method_13_code 41 (.istore_n 3) 1 42 := by decide +kernel
theorem d_S_out_42 : dI prog_1_method_13_code 42 (.iload_n 3) 1 43 := by decide +kernel
theorem d_S_out_43 : dJ prog_1_method_13_code 43 (.ifCond .ge 11) 11 46 54 := by decide +kernel
theorem d_S_out_46 : dI prog_1_method_13_code 46 (.aload_n 0) 1 47 := by decide +kernel
theorem d_S_out_47 : dI prog_1_method_13_code 47 (.iconst 3) 1 48 ∧ Int32.ofInt 3 = 3 := by decide +kernel
theorem d_S_out_48 : dI prog_1_method_13_code 48 (.invokevirtual 67) 3 51 := by decide +kernel
theorem d_S_out_51 : dJ prog_1_method_13_code 51 (.goto 4) 4 54 55 := by decide +kernel
theorem d_S_out_54 : dI prog_1_method_13_code 54 (.iload_n 3) 1 55 := by decide +kernel
theorem d_S_out_55 : decode prog_1_method_13_code 55 = .ok (.ireturn, 1) := by decide +kernel
theorem d_S_when_0 : dI prog_1_method_14_code 0 (.iload_n 1) 1 1 := by decide +kernel
theorem d_S_when_1 : dI prog_1_method_14_code 1 (.invokestatic 104) 3 4 := by decide +kernel
theorem d_S_when_4 : dJ prog_1_method_14_code 4 (.ifCond .ne 9) 9 7 13 := by decide +kernel
theorem d_S_when_7 : dI prog_1_method_14_code 7 (.aload_n 0) 1 8 := by decide +kernel
theorem d_S_when_8 : dI prog_1_method_14_code 8 (.iconst 0) 1 9 ∧ Int32.ofInt 0 = 0 := by decide +kernel
theorem d_S_when_9 : dI prog_1_method_14_code 9 (.invokevirtual 67) 3 12 := by decide +kernel
theorem d_S_when_12 : decode prog_1_method_14_code 12 = .ok (.ireturn, 1) := by decide +kernel
theorem d_S_when_13 : dI prog_1_method_14_code 13 (.aload_n 0) 1 14 := by decide +kernel
theorem d_S_when_14 : dI prog_1_method_14_code 14 (.getfield 10) 3 17 := by decide +kernel
theorem d_S_when_17 : dI prog_1_method_14_code 17 (.getfield 107) 3 20 := by decide +kernel
theorem d_S_when_20 : dI prog_1_method_14_code 20 (.iload_n 1) 1 21 := by decide +kernel
theorem d_S_when_21 : dI prog_1_method_14_code 21 .iaload 1 22 := by decide +kernel
theorem d_S_when_22 : dI prog_1_method_14_code 22 (.istore_n 2) 1 23 := by decide +kernel
theorem d_S_when_23 : dI prog_1_method_14_code 23 (.iload_n 2) 1 24 := by decide +kernel
theorem d_S_when_24 : dI prog_1_method_14_code 24 (.iconst (-1)) 1 25 ∧ Int32.ofInt (-1) = (-1) := by decide +kernel
theorem d_S_when_25 : dJ prog_1_method_14_code 25 (.if_icmp .ne 9) 9 28 34 := by decide +kernel
theorem d_S_when_28 : dI prog_1_method_14_code 28 (.aload_n 0) 1 29 := by decide +kernel
theorem d_S_when_29 : dI prog_1_method_14_code 29 (.iconst 3) 1 30 ∧ Int32.ofInt 3 = 3 := by decide +kernel
theorem d_S_when_30 : dI prog_1_method_14_code 30 (.invokevirtual 67) 3 33 := by decide +kernel
theorem d_S_when_33 : decode prog_1_method_14_code 33 = .ok (.ireturn, 1) := by decide +kernel
theorem d_S_when_34 : dI prog_1_method_14_code 34 (.iconst (-1)) 1 35 ∧ Int32.ofInt (-1) = (-1) := by decide +kernel
theorem d_S_when_35 : dI prog_1_method_14_code 35 (.istore_n 3) 1 36 := by decide +kernel
theorem d_S_when_36 : dI prog_1_method_14_code 36 (.iconst 0) 1 37 ∧ Int32.ofInt 0 = 0 := by decide +kernel
theorem d_S_when_37 : dI prog_1_method_14_code 37 (.istore 4) 2 39 := by decide +kernel
theorem d_S_when_39 : dI prog_1_method_14_code 39 (.iconst 0) 1 40 ∧ Int32.ofInt 0 = 0 := by decide +kernel
theorem d_S_when_40 : dI prog_1_method_14_code 40 (.istore 5) 2 42 := by decide +kernel
theorem d_S_when_42 : dI prog_1_method_14_code 42 (.iload 5) 2 44 := by decide +kernel
theorem d_S_when_44 : dI prog_1_method_14_code 44 (.bipush 24) 2 46 ∧ (Int8.ofInt 24).toInt32 = 24 := by decide +kernel
theorem d_S_when_46 : dJ prog_1_method_14_code 46 (.if_icmp .ge 81) 81 49 127 := by decide +kernel
theorem d_S_when_49 : dI prog_1_method_14_code 49 (.aload_n 0) 1 50 := by decide +kernel
theorem d_S_when_50 : dI prog_1_method_14_code 50 (.getfield 36) 3 53 := by decide +kernel
theorem d_S_when_53 : dI prog_1_method_14_code 53 (.aload_n 0) 1 54 := by decide +kernel
theorem d_S_when_54 : dI prog_1_method_14_code 54 (.getfield 26) 3 57 := by decide +kernel
theorem d_S_when_57 : dI prog_1_method_14_code 57 (.invokevirtual 122) 3 60 := by decide +kernel
theorem d_S_when_60 : dI prog_1_method_14_code 60 (.aload_n 0) 1 61 := by decide +kernel
theorem d_S_when_61 : dI prog_1_method_14_code 61 (.getfield 36) 3 64 := by decide +kernel
theorem d_S_when_64 : dI prog_1_method_14_code 64 (.iload 5) 2 66 := by decide +kernel
theorem d_S_when_66 : dI prog_1_method_14_code 66 (.invokevirtual 133) 3 69 := by decide +kernel
theorem d_S_when_69 : dI prog_1_method_14_code 69 (.aload_n 0) 1 70 := by decide +kernel
theorem d_S_when_70 : dI prog_1_method_14_code 70 (.getfield 36) 3 73 := by decide +kernel
theorem d_S_when_73 : dI prog_1_method_14_code 73 (.invokevirtual 84) 3 76 := by decide +kernel
theorem d_S_when_76 : dI prog_1_method_14_code 76 (.istore 6) 2 78 := by decide +kernel
theorem d_S_when_78 : dI prog_1_method_14_code 78 (.aload_n 0) 1 79 := by decide +kernel
theorem d_S_when_79 : dI prog_1_method_14_code 79 (.getfield 36) 3 82 := by decide +kernel
theorem d_S_when_82 : dI prog_1_method_14_code 82 (.iload_n 2) 1 83 := by decide +kernel
theorem d_S_when_83 : dI prog_1_method_14_code 83 (.invokevirtual 119) 3 86 := by decide +kernel
theorem d_S_when_86 : dJ prog_1_method_14_code 86 (.ifCond .eq 35) 35 89 121 := by decide +kernel
theorem d_S_when_89 : dI prog_1_method_14_code 89 (.aload_n 0) 1 90 := by decide +kernel
theorem d_S_when_90 : dI prog_1_method_14_code 90 (.getfield 36) 3 93 := by decide +kernel
theorem d_S_when_93 : dI prog_1_method_14_code 93 (.aload_n 0) 1 94 := by decide +kernel
theorem d_S_when_94 : dI prog_1_method_14_code 94 (.getfield 26) 3 97 := by decide +kernel
theorem d_S_when_97 : dI prog_1_method_14_code 97 (.iconst 0) 1 98 ∧ Int32.ofInt 0 = 0 := by decide +kernel
theorem d_S_when_98 : dI prog_1_method_14_code 98 (.invokevirtual 126) 3 101 := by decide +kernel
theorem d_S_when_101 : dI prog_1_method_14_code 101 (.istore 7) 2 103 := by decide +kernel
theorem d_S_when_103 : dI prog_1_method_14_code 103 (.iload_n 3) 1 104 := by decide +kernel
theorem d_S_when_104 : dJ prog_1_method_14_code 104 (.ifCond .lt 10) 10 107 114 := by decide +kernel
theorem d_S_when_107 : dI prog_1_method_14_code 107 (.iload 7) 2 109 := by decide +kernel
theorem d_S_when_109 : dI prog_1_method_14_code 109 (.iload 4) 2 111 := by decide +kernel
theorem d_S_when_111 : dJ prog_1_method_14_code 111 (.if_icmp .le 10) 10 114 121 := by decide +kernel
theorem d_S_when_114 : dI prog_1_method_14_code 114 (.iload 6) 2 116 := by decide +kernel
theorem d_S_when_116 : dI prog_1_method_14_code 116 (.istore_n 3) 1 117 := by decide +kernel
theorem d_S_when_117 : dI prog_1_method_14_code 117 (.iload 7) 2 119 := by decide +kernel
theorem d_S_when_119 : dI prog_1_method_14_code 119 (.istore 4) 2 121 := by decide +kernel
theorem d_S_when_121 : dI prog_1_method_14_code 121 (.iinc 5 1) 3 124 ∧ Int32.ofInt 1 = 1 := by decide +kernel
theorem d_S_when_124 : dJ prog_1_method_14_code 124 (.goto (-82)) (-82) 127 42 := by decide +kernel
theorem d_S_when_127 : dI prog_1_method_14_code 127 (.iload_n 3) 1 128 := by decide +kernel
theorem d_S_when_128 : dJ prog_1_method_14_code 128 (.ifCond .ge 11) 11 131 139 := by decide +kernel
theorem d_S_when_131 : dI prog_1_method_14_code 131 (.aload_n 0) 1 132 := by decide +kernel
theorem d_S_when_132 : dI prog_1_method_14_code 132 (.iconst 3) 1 133 ∧ Int32.ofInt 3 = 3 := by decide +kernel
theorem d_S_when_133 : dI prog_1_method_14_code 133 (.invokevirtual 67) 3 136 := by decide +kernel
theorem d_S_when_136 : dJ prog_1_method_14_code 136 (.goto 4) 4 139 140 := by decide +kernel
theorem d_S_when_139 : dI prog_1_method_14_code 139 (.iload_n 3) 1 140 := by decide +kernel
theorem d_S_when_140 : decode prog_1_method_14_code 140 = .ok (.ireturn, 1) := by decide +kernel
theorem d_S_feed_0 : dI prog_1_method_15_code 0 (.iload_n 2) 1 1 := by decide +kernel
theorem d_S_feed_1 : dI prog_1_method_15_code 1 (.iconst 1) 1 2 ∧ Int32.ofInt 1 = 1 := by decide +kernel
theorem d_S_feed_2 : dJ prog_1_method_15_code 2 (.if_icmp .lt 8) 8 5 10 := by decide +kernel
theorem d_S_feed_5 : dI prog_1_method_15_code 5 (.iload_n 2) 1 6 := by decide +kernel
theorem d_S_feed_6 : dI prog_1_method_15_code 6 (.iconst 4) 1 7 ∧ Int32.ofInt 4 = 4 := by decide +kernel
theorem d_S_feed_7 : dJ prog_1_method_15_code 7 (.if_icmp .le 9) 9 10 16 := by decide +kernel
theorem d_S_feed_10 : dI prog_1_method_15_code 10 (.aload_n 0) 1 11 := by decide +kernel
theorem d_S_feed_11 : dI prog_1_method_15_code 11 (.iconst 0) 1 12 ∧ Int32.ofInt 0 = 0 := by decide +kernel
theorem d_S_feed_12 : dI prog_1_method_15_code 12 (.invokevirtual 67) 3 15 := by decide +kernel
theorem d_S_feed_15 : decode prog_1_method_15_code 15 = .ok (.ireturn, 1) := by decide +kernel
theorem d_S_feed_16 : dI prog_1_method_15_code 16 (.aload_n 0) 1 17 := by decide +kernel
theorem d_S_feed_17 : dI prog_1_method_15_code 17 (.getfield 49) 3 20 := by decide +kernel
theorem d_S_feed_20 : dI prog_1_method_15_code 20 (.getfield 137) 3 23 := by decide +kernel
theorem d_S_feed_23 : dI prog_1_method_15_code 23 (.iload_n 2) 1 24 := by decide +kernel
theorem d_S_feed_24 : dI prog_1_method_15_code 24 .iadd 1 25 := by decide +kernel
theorem d_S_feed_25 : dI prog_1_method_15_code 25 (.bipush 120) 2 27 ∧ (Int8.ofInt 120).toInt32 = 120 := by decide +kernel
theorem d_S_feed_27 : dJ prog_1_method_15_code 27 (.if_icmp .le 9) 9 30 36 := by decide +kernel
theorem d_S_feed_30 : dI prog_1_method_15_code 30 (.aload_n 0) 1 31 := by decide +kernel
theorem d_S_feed_31 : dI prog_1_method_15_code 31 (.iconst 1) 1 32 ∧ Int32.ofInt 1 = 1 := by decide +kernel
theorem d_S_feed_32 : dI prog_1_method_15_code 32 (.invokevirtual 67) 3 35 := by decide +kernel
theorem d_S_feed_35 : decode prog_1_method_15_code 35 = .ok (.ireturn, 1) := by decide +kernel
theorem d_S_feed_36 : dI prog_1_method_15_code 36 (.iload_n 2) 1 37 := by decide +kernel
theorem d_S_feed_37 : dI prog_1_method_15_code 37 (.iconst 1) 1 38 ∧ Int32.ofInt 1 = 1 := by decide +kernel
theorem d_S_feed_38 : dI prog_1_method_15_code 38 .isub 1 39 := by decide +kernel
theorem d_S_feed_39 : dI prog_1_method_15_code 39 (.istore_n 3) 1 40 := by decide +kernel
theorem d_S_feed_40 : dI prog_1_method_15_code 40 (.iload_n 3) 1 41 := by decide +kernel
theorem d_S_feed_41 : dJ prog_1_method_15_code 41 (.ifCond .lt 26) 26 44 67 := by decide +kernel
theorem d_S_feed_44 : dI prog_1_method_15_code 44 (.aload_n 0) 1 45 := by decide +kernel
theorem d_S_feed_45 : dI prog_1_method_15_code 45 (.getfield 49) 3 48 := by decide +kernel
theorem d_S_feed_48 : dI prog_1_method_15_code 48 (.iload_n 1) 1 49 := by decide +kernel
theorem d_S_feed_49 : dI prog_1_method_15_code 49 (.bipush 8) 2 51 ∧ (Int8.ofInt 8).toInt32 = 8 := by decide +kernel
theorem d_S_feed_51 : dI prog_1_method_15_code 51 (.iload_n 3) 1 52 := by decide +kernel
theorem d_S_feed_52 : dI prog_1_method_15_code 52 .imul 1 53 := by decide +kernel
theorem d_S_feed_53 : dI prog_1_method_15_code 53 .iushr 1 54 := by decide +kernel
theorem d_S_feed_54 : dI prog_1_method_15_code 54 (.sipush 255) 3 57 ∧ (Int16.ofInt 255).toInt32 = 255 := by decide +kernel
theorem d_S_feed_57 : dI prog_1_method_15_code 57 .iand 1 58 := by decide +kernel
theorem d_S_feed_58 : dI prog_1_method_15_code 58 (.invokevirtual 141) 3 61 := by decide +kernel
theorem d_S_feed_61 : dI prog_1_method_15_code 61 (.iinc 3 (-1)) 3 64 ∧ Int32.ofInt (-1) = (-1) := by decide +kernel
theorem d_S_feed_64 : dJ prog_1_method_15_code 64 (.goto (-24)) (-24) 67 40 := by decide +kernel
theorem d_S_feed_67 : dI prog_1_method_15_code 67 (.aload_n 0) 1 68 := by decide +kernel
theorem d_S_feed_68 : dI prog_1_method_15_code 68 (.getfield 49) 3 71 := by decide +kernel
theorem d_S_feed_71 : dI prog_1_method_15_code 71 (.getfield 137) 3 74 := by decide +kernel
theorem d_S_feed_74 : decode prog_1_method_15_code 74 = .ok (.ireturn, 1) := by decide +kernel
theorem d_S_wipe_0 : dI prog_1_method_16_code 0 (.aload_n 0) 1 1 := by decide +kernel
theorem d_S_wipe_1 : dI prog_1_method_16_code 1 (.getfield 49) 3 4 := by decide +kernel
theorem d_S_wipe_4 : dI prog_1_method_16_code 4 (.getfield 137) 3 7 := by decide +kernel
theorem d_S_wipe_7 : dI prog_1_method_16_code 7 (.istore_n 1) 1 8 := by decide +kernel
theorem d_S_wipe_8 : dI prog_1_method_16_code 8 (.aload_n 0) 1 9 := by decide +kernel
theorem d_S_wipe_9 : dI prog_1_method_16_code 9 (.getfield 49) 3 12 := by decide +kernel
theorem d_S_wipe_12 : dI prog_1_method_16_code 12 (.iconst 0) 1 13 ∧ Int32.ofInt 0 = 0 := by decide +kernel
theorem d_S_wipe_13 : dI prog_1_method_16_code 13 (.putfield 137) 3 16 := by decide +kernel
theorem d_S_wipe_16 : dI prog_1_method_16_code 16 (.iload_n 1) 1 17 := by decide +kernel
theorem d_S_wipe_17 : decode prog_1_method_16_code 17 = .ok (.ireturn, 1) := by decide +kernel
theorem d_S_text_0 : dI prog_1_method_17_code 0 (.aload_n 0) 1 1 := by decide +kernel
theorem d_S_text_1 : dI prog_1_method_17_code 1 (.getfield 19) 3 4 := by decide +kernel
theorem d_S_text_4 : dI prog_1_method_17_code 4 (.aload_n 0) 1 5 := by decide +kernel
theorem d_S_text_5 : dI prog_1_method_17_code 5 (.getfield 10) 3 8 := by decide +kernel
theorem d_S_text_8 : dI prog_1_method_17_code 8 (.invokevirtual 144) 3 11 := by decide +kernel
theorem d_S_text_11 : dI prog_1_method_17_code 11 (.aload_n 0) 1 12 := by decide +kernel
theorem d_S_text_12 : dI prog_1_method_17_code 12 (.getfield 49) 3 15 := by decide +kernel
theorem d_S_text_15 : dI prog_1_method_17_code 15 (.aload_n 0) 1 16 := by decide +kernel
theorem d_S_text_16 : dI prog_1_method_17_code 16 (.getfield 19) 3 19 := by decide +kernel
theorem d_S_text_19 : dI prog_1_method_17_code 19 (.invokevirtual 147) 3 22 := by decide +kernel
theorem d_S_text_22 : dI prog_1_method_17_code 22 (.istore_n 1) 1 23 := by decide +kernel
theorem d_S_text_23 : dI prog_1_method_17_code 23 (.aload_n 0) 1 24 := by decide +kernel
theorem d_S_text_24 : dI prog_1_method_17_code 24 (.getfield 49) 3 27 := by decide +kernel
theorem d_S_text_27 : dI prog_1_method_17_code 27 (.iconst 0) 1 28 ∧ Int32.ofInt 0 = 0 := by decide +kernel
theorem d_S_text_28 : dI prog_1_method_17_code 28 (.putfield 137) 3 31 := by decide +kernel
theorem d_S_text_31 : dI prog_1_method_17_code 31 (.iload_n 1) 1 32 := by decide +kernel
theorem d_S_text_32 : dJ prog_1_method_17_code 32 (.ifCond .lt 7) 7 35 39 := by decide +kernel
theorem d_S_text_35 : dI prog_1_method_17_code 35 (.iconst (-1)) 1 36 ∧ Int32.ofInt (-1) = (-1) := by decide +kernel
theorem d_S_text_36 : dI prog_1_method_17_code 36 (.iload_n 1) 1 37 := by decide +kernel
theorem d_S_text_37 : dI prog_1_method_17_code 37 .isub 1 38 := by decide +kernel
theorem d_S_text_38 : decode prog_1_method_17_code 38 = .ok (.ireturn, 1) := by decide +kernel
theorem d_S_text_39 : dI prog_1_method_17_code 39 (.aload_n 0) 1 40 := by decide +kernel
theorem d_S_text_40 : dI prog_1_method_17_code 40 (.getfield 10) 3 43 := by decide +kernel
theorem d_S_text_43 : dI prog_1_method_17_code 43 (.aload_n 0) 1 44 := by decide +kernel
theorem d_S_text_44 : dI prog_1_method_17_code 44 (.getfield 19) 3 47 := by decide +kernel
theorem d_S_text_47 : dI prog_1_method_17_code 47 (.invokevirtual 144) 3 50 := by decide +kernel
theorem d_S_text_50 : dI prog_1_method_17_code 50 (.aload_n 0) 1 51 := by decide +kernel
theorem d_S_text_51 : dI prog_1_method_17_code 51 (.getfield 10) 3 54 := by decide +kernel
theorem d_S_text_54 : dI prog_1_method_17_code 54 (.getfield 151) 3 57 := by decide +kernel
theorem d_S_text_57 : decode prog_1_method_17_code 57 = .ok (.ireturn, 1) := by decide +kernel
theorem d_S_planOf_0 : dI prog_1_method_18_code 0 (.iload_n 1) 1 1 := by decide +kernel
theorem d_S_planOf_1 : dJ prog_1_method_18_code 1 (.ifCond .lt 20) 20 4 21 := by decide +kernel
theorem d_S_planOf_4 : dI prog_1_method_18_code 4 (.iload_n 1) 1 5 := by decide +kernel
theorem d_S_planOf_5 : dI prog_1_method_18_code 5 (.aload_n 0) 1 6 := by decide +kernel
theorem d_S_planOf_6 : dI prog_1_method_18_code 6 (.getfield 10) 3 9 := by decide +kernel
theorem d_S_planOf_9 : dI prog_1_method_18_code 9 (.getfield 151) 3 12 := by decide +kernel
theorem d_S_planOf_12 : dJ prog_1_method_18_code 12 (.if_icmp .ge 9) 9 15 21 := by decide +kernel
theorem d_S_planOf_15 : dI prog_1_method_18_code 15 (.iload_n 1) 1 16 := by decide +kernel
theorem d_S_planOf_16 : dI prog_1_method_18_code 16 (.bipush 20) 2 18 ∧ (Int8.ofInt 20).toInt32 = 20 := by decide +kernel
theorem d_S_planOf_18 : dJ prog_1_method_18_code 18 (.if_icmp .lt 9) 9 21 27 := by decide +kernel
theorem d_S_planOf_21 : dI prog_1_method_18_code 21 (.aload_n 0) 1 22 := by decide +kernel
theorem d_S_planOf_22 : dI prog_1_method_18_code 22 (.iconst 0) 1 23 ∧ Int32.ofInt 0 = 0 := by decide +kernel
theorem d_S_planOf_23 : dI prog_1_method_18_code 23 (.invokevirtual 67) 3 26 := by decide +kernel
theorem d_S_planOf_26 : decode prog_1_method_18_code 26 = .ok (.ireturn, 1) := by decide +kernel
theorem d_S_planOf_27 : dI prog_1_method_18_code 27 (.aload_n 0) 1 28 := by decide +kernel
theorem d_S_planOf_28 : dI prog_1_method_18_code 28 (.getfield 10) 3 31 := by decide +kernel
theorem d_S_planOf_31 : dI prog_1_method_18_code 31 (.getfield 154) 3 34 := by decide +kernel
theorem d_S_planOf_34 : dI prog_1_method_18_code 34 (.iload_n 1) 1 35 := by decide +kernel
theorem d_S_planOf_35 : dI prog_1_method_18_code 35 .iaload 1 36 := by decide +kernel
theorem d_S_planOf_36 : decode prog_1_method_18_code 36 = .ok (.ireturn, 1) := by decide +kernel
theorem d_S_clear_0 : dI prog_1_method_19_code 0 (.aload_n 0) 1 1 := by decide +kernel
theorem d_S_clear_1 : dI prog_1_method_19_code 1 (.getfield 10) 3 4 := by decide +kernel
theorem d_S_clear_4 : dI prog_1_method_19_code 4 (.getfield 151) 3 7 := by decide +kernel
theorem d_S_clear_7 : dI prog_1_method_19_code 7 (.istore_n 1) 1 8 := by decide +kernel
theorem d_S_clear_8 : dI prog_1_method_19_code 8 (.aload_n 0) 1 9 := by decide +kernel
theorem d_S_clear_9 : dI prog_1_method_19_code 9 (.getfield 10) 3 12 := by decide +kernel
theorem d_S_clear_12 : dI prog_1_method_19_code 12 (.iconst 0) 1 13 ∧ Int32.ofInt 0 = 0 := by decide +kernel
theorem d_S_clear_13 : dI prog_1_method_19_code 13 (.putfield 151) 3 16 := by decide +kernel
theorem d_S_clear_16 : dI prog_1_method_19_code 16 (.iload_n 1) 1 17 := by decide +kernel
theorem d_S_clear_17 : decode prog_1_method_19_code 17 = .ok (.ireturn, 1) := by decide +kernel
theorem d_S_follow_0 : dI prog_1_method_20_code 0 (.aload_n 0) 1 1 := by decide +kernel
theorem d_S_follow_1 : dI prog_1_method_20_code 1 (.getfield 10) 3 4 := by decide +kernel
theorem d_S_follow_4 : dI prog_1_method_20_code 4 (.aload_n 0) 1 5 := by decide +kernel
theorem d_S_follow_5 : dI prog_1_method_20_code 5 (.getfield 26) 3 8 := by decide +kernel
theorem d_S_follow_8 : dI prog_1_method_20_code 8 (.invokevirtual 157) 3 11 := by decide +kernel
theorem d_S_follow_11 : decode prog_1_method_20_code 11 = .ok (.ireturn, 1) := by decide +kernel
theorem d_S_plans_0 : dI prog_1_method_21_code 0 (.iload_n 1) 1 1 := by decide +kernel
theorem d_S_plans_1 : dJ prog_1_method_21_code 1 (.ifCond .lt 8) 8 4 9 := by decide +kernel
theorem d_S_plans_4 : dI prog_1_method_21_code 4 (.iload_n 1) 1 5 := by decide +kernel
theorem d_S_plans_5 : dI prog_1_method_21_code 5 (.iconst 3) 1 6 ∧ Int32.ofInt 3 = 3 := by decide +kernel
theorem d_S_plans_6 : dJ prog_1_method_21_code 6 (.if_icmp .le 9) 9 9 15 := by decide +kernel
theorem d_S_plans_9 : dI prog_1_method_21_code 9 (.aload_n 0) 1 10 := by decide +kernel
theorem d_S_plans_10 : dI prog_1_method_21_code 10 (.iconst 0) 1 11 ∧ Int32.ofInt 0 = 0 := by decide +kernel
theorem d_S_plans_11 : dI prog_1_method_21_code 11 (.invokevirtual 67) 3 14 := by decide +kernel
theorem d_S_plans_14 : decode prog_1_method_21_code 14 = .ok (.ireturn, 1) := by decide +kernel
theorem d_S_plans_15 : dI prog_1_method_21_code 15 (.aload_n 0) 1 16 := by decide +kernel
theorem d_S_plans_16 : dI prog_1_method_21_code 16 (.getfield 36) 3 19 := by decide +kernel
theorem d_S_plans_19 : dI prog_1_method_21_code 19 (.aload_n 0) 1 20 := by decide +kernel
theorem d_S_plans_20 : dI prog_1_method_21_code 20 (.getfield 26) 3 23 := by decide +kernel
theorem d_S_plans_23 : dI prog_1_method_21_code 23 (.invokevirtual 122) 3 26 := by decide +kernel
theorem d_S_plans_26 : dI prog_1_method_21_code 26 (.aload_n 0) 1 27 := by decide +kernel
theorem d_S_plans_27 : dI prog_1_method_21_code 27 (.getfield 10) 3 30 := by decide +kernel
theorem d_S_plans_30 : dI prog_1_method_21_code 30 (.aload_n 0) 1 31 := by decide +kernel
theorem d_S_plans_31 : dI prog_1_method_21_code 31 (.getfield 36) 3 34 := by decide +kernel
theorem d_S_plans_34 : dI prog_1_method_21_code 34 (.invokevirtual 157) 3 37 := by decide +kernel
theorem d_S_plans_37 : dI prog_1_method_21_code 37 (.istore_n 2) 1 38 := by decide +kernel
theorem d_S_plans_38 : dI prog_1_method_21_code 38 (.iload_n 1) 1 39 := by decide +kernel
theorem d_S_plans_39 : decode prog_1_method_21_code 39 = .ok (.tableswitch 54 0 2 #[25, 27, 40], 25) := by decide +kernel
theorem d_S_plans_64 : dI prog_1_method_21_code 64 (.iload_n 2) 1 65 := by decide +kernel
theorem d_S_plans_65 : decode prog_1_method_21_code 65 = .ok (.ireturn, 1) := by decide +kernel
theorem d_S_plans_66 : dI prog_1_method_21_code 66 (.aload_n 0) 1 67 := by decide +kernel
theorem d_S_plans_67 : dI prog_1_method_21_code 67 (.getfield 36) 3 70 := by decide +kernel
theorem d_S_plans_70 : dI prog_1_method_21_code 70 (.aload_n 0) 1 71 := by decide +kernel
theorem d_S_plans_71 : dI prog_1_method_21_code 71 (.getfield 26) 3 74 := by decide +kernel
theorem d_S_plans_74 : dI prog_1_method_21_code 74 (.iconst 0) 1 75 ∧ Int32.ofInt 0 = 0 := by decide +kernel
theorem d_S_plans_75 : dI prog_1_method_21_code 75 (.invokevirtual 126) 3 78 := by decide +kernel
theorem d_S_plans_78 : decode prog_1_method_21_code 78 = .ok (.ireturn, 1) := by decide +kernel
theorem d_S_plans_79 : dI prog_1_method_21_code 79 (.aload_n 0) 1 80 := by decide +kernel
theorem d_S_plans_80 : dI prog_1_method_21_code 80 (.getfield 36) 3 83 := by decide +kernel
theorem d_S_plans_83 : dI prog_1_method_21_code 83 (.aload_n 0) 1 84 := by decide +kernel
theorem d_S_plans_84 : dI prog_1_method_21_code 84 (.getfield 26) 3 87 := by decide +kernel
theorem d_S_plans_87 : dI prog_1_method_21_code 87 (.bipush 8) 2 89 ∧ (Int8.ofInt 8).toInt32 = 8 := by decide +kernel
theorem d_S_plans_89 : dI prog_1_method_21_code 89 (.invokevirtual 126) 3 92 := by decide +kernel
theorem d_S_plans_92 : decode prog_1_method_21_code 92 = .ok (.ireturn, 1) := by decide +kernel
theorem d_S_plans_93 : dI prog_1_method_21_code 93 (.aload_n 0) 1 94 := by decide +kernel
theorem d_S_plans_94 : dI prog_1_method_21_code 94 (.getfield 36) 3 97 := by decide +kernel
theorem d_S_plans_97 : dI prog_1_method_21_code 97 (.aload_n 0) 1 98 := by decide +kernel
theorem d_S_plans_98 : dI prog_1_method_21_code 98 (.getfield 26) 3 101 := by decide +kernel
theorem d_S_plans_101 : dI prog_1_method_21_code 101 (.bipush 7) 2 103 ∧ (Int8.ofInt 7).toInt32 = 7 := by decide +kernel
theorem d_S_plans_103 : dI prog_1_method_21_code 103 (.invokevirtual 126) 3 106 := by decide +kernel
theorem d_S_plans_106 : decode prog_1_method_21_code 106 = .ok (.ireturn, 1) := by decide +kernel
theorem d_S_best_0 : dI prog_1_method_22_code 0 (.iload_n 1) 1 1 := by decide +kernel
theorem d_S_best_1 : dI prog_1_method_22_code 1 (.iconst 1) 1 2 ∧ Int32.ofInt 1 = 1 := by decide +kernel
theorem d_S_best_2 : dJ prog_1_method_22_code 2 (.if_icmp .lt 17) 17 5 19 := by decide +kernel
theorem d_S_best_5 : dI prog_1_method_22_code 5 (.iload_n 1) 1 6 := by decide +kernel
theorem d_S_best_6 : dI prog_1_method_22_code 6 (.iconst 3) 1 7 ∧ Int32.ofInt 3 = 3 := by decide +kernel
theorem d_S_best_7 : dJ prog_1_method_22_code 7 (.if_icmp .gt 12) 12 10 19 := by decide +kernel
theorem d_S_best_10 : dI prog_1_method_22_code 10 (.iload_n 2) 1 11 := by decide +kernel
theorem d_S_best_11 : dJ prog_1_method_22_code 11 (.ifCond .lt 8) 8 14 19 := by decide +kernel
theorem d_S_best_14 : dI prog_1_method_22_code 14 (.iload_n 2) 1 15 := by decide +kernel
theorem d_S_best_15 : dI prog_1_method_22_code 15 (.iconst 2) 1 16 ∧ Int32.ofInt 2 = 2 := by decide +kernel
theorem d_S_best_16 : dJ prog_1_method_22_code 16 (.if_icmp .le 9) 9 19 25 := by decide +kernel
theorem d_S_best_19 : dI prog_1_method_22_code 19 (.aload_n 0) 1 20 := by decide +kernel
theorem d_S_best_20 : dI prog_1_method_22_code 20 (.iconst 0) 1 21 ∧ Int32.ofInt 0 = 0 := by decide +kernel
theorem d_S_best_21 : dI prog_1_method_22_code 21 (.invokevirtual 67) 3 24 := by decide +kernel
theorem d_S_best_24 : decode prog_1_method_22_code 24 = .ok (.ireturn, 1) := by decide +kernel
theorem d_S_best_25 : dI prog_1_method_22_code 25 (.aload_n 0) 1 26 := by decide +kernel
theorem d_S_best_26 : dI prog_1_method_22_code 26 (.getfield 42) 3 29 := by decide +kernel
theorem d_S_best_29 : dI prog_1_method_22_code 29 (.aload_n 0) 1 30 := by decide +kernel
theorem d_S_best_30 : dI prog_1_method_22_code 30 (.getfield 26) 3 33 := by decide +kernel
theorem d_S_best_33 : dI prog_1_method_22_code 33 (.invokevirtual 161) 3 36 := by decide +kernel
theorem d_S_best_36 : dI prog_1_method_22_code 36 (.aload_n 0) 1 37 := by decide +kernel
theorem d_S_best_37 : dI prog_1_method_22_code 37 (.getfield 42) 3 40 := by decide +kernel
theorem d_S_best_40 : dI prog_1_method_22_code 40 (.iconst 0) 1 41 ∧ Int32.ofInt 0 = 0 := by decide +kernel
theorem d_S_best_41 : dI prog_1_method_22_code 41 (.iload_n 1) 1 42 := by decide +kernel
theorem d_S_best_42 : dI prog_1_method_22_code 42 (.iconst 0) 1 43 ∧ Int32.ofInt 0 = 0 := by decide +kernel
theorem d_S_best_43 : dI prog_1_method_22_code 43 (.invokestatic 164) 3 46 := by decide +kernel
theorem d_S_best_46 : dI prog_1_method_22_code 46 (.aload_n 0) 1 47 := by decide +kernel
theorem d_S_best_47 : dI prog_1_method_22_code 47 (.getfield 42) 3 50 := by decide +kernel
theorem d_S_best_50 : dI prog_1_method_22_code 50 (.getfield 168) 3 53 := by decide +kernel
theorem d_S_best_53 : dJ prog_1_method_22_code 53 (.ifCond .ne 9) 9 56 62 := by decide +kernel
theorem d_S_best_56 : dI prog_1_method_22_code 56 (.aload_n 0) 1 57 := by decide +kernel
theorem d_S_best_57 : dI prog_1_method_22_code 57 (.iconst 3) 1 58 ∧ Int32.ofInt 3 = 3 := by decide +kernel
theorem d_S_best_58 : dI prog_1_method_22_code 58 (.invokevirtual 67) 3 61 := by decide +kernel
theorem d_S_best_61 : decode prog_1_method_22_code 61 = .ok (.ireturn, 1) := by decide +kernel
theorem d_S_best_62 : dI prog_1_method_22_code 62 (.iload_n 2) 1 63 := by decide +kernel
theorem d_S_best_63 : decode prog_1_method_22_code 63 = .ok (.lookupswitch 41 #[(0, 25), (1, 33)], 25) := by decide +kernel
theorem d_S_best_88 : dI prog_1_method_22_code 88 (.aload_n 0) 1 89 := by decide +kernel
theorem d_S_best_89 : dI prog_1_method_22_code 89 (.getfield 42) 3 92 := by decide +kernel
theorem d_S_best_92 : dI prog_1_method_22_code 92 (.getfield 172) 3 95 := by decide +kernel
theorem d_S_best_95 : decode prog_1_method_22_code 95 = .ok (.ireturn, 1) := by decide +kernel
theorem d_S_best_96 : dI prog_1_method_22_code 96 (.aload_n 0) 1 97 := by decide +kernel
theorem d_S_best_97 : dI prog_1_method_22_code 97 (.getfield 42) 3 100 := by decide +kernel
theorem d_S_best_100 : dI prog_1_method_22_code 100 (.getfield 175) 3 103 := by decide +kernel
theorem d_S_best_103 : decode prog_1_method_22_code 103 = .ok (.ireturn, 1) := by decide +kernel
theorem d_S_best_104 : dI prog_1_method_22_code 104 (.aload_n 0) 1 105 := by decide +kernel
theorem d_S_best_105 : dI prog_1_method_22_code 105 (.getfield 42) 3 108 := by decide +kernel
theorem d_S_best_108 : dI prog_1_method_22_code 108 (.getfield 178) 3 111 := by decide +kernel
theorem d_S_best_111 : decode prog_1_method_22_code 111 = .ok (.ireturn, 1) := by decide +kernel
theorem d_S_airFor_0 : dI prog_1_method_23_code 0 (.iload_n 1) 1 1 := by decide +kernel
theorem d_S_airFor_1 : dI prog_1_method_23_code 1 (.invokestatic 63) 3 4 := by decide +kernel
theorem d_S_airFor_4 : dJ prog_1_method_23_code 4 (.ifCond .ne 9) 9 7 13 := by decide +kernel
theorem d_S_airFor_7 : dI prog_1_method_23_code 7 (.aload_n 0) 1 8 := by decide +kernel
theorem d_S_airFor_8 : dI prog_1_method_23_code 8 (.iconst 0) 1 9 ∧ Int32.ofInt 0 = 0 := by decide +kernel
theorem d_S_airFor_9 : dI prog_1_method_23_code 9 (.invokevirtual 67) 3 12 := by decide +kernel
theorem d_S_airFor_12 : decode prog_1_method_23_code 12 = .ok (.ireturn, 1) := by decide +kernel
theorem d_S_airFor_13 : dI prog_1_method_23_code 13 (.iconst 0) 1 14 ∧ Int32.ofInt 0 = 0 := by decide +kernel
theorem d_S_airFor_14 : dI prog_1_method_23_code 14 (.istore_n 2) 1 15 := by decide +kernel
theorem d_S_airFor_15 : dI prog_1_method_23_code 15 (.iload_n 2) 1 16 := by decide +kernel
theorem d_S_airFor_16 : dI prog_1_method_23_code 16 (.bipush 9) 2 18 ∧ (Int8.ofInt 9).toInt32 = 9 := by decide +kernel
theorem d_S_airFor_18 : dJ prog_1_method_23_code 18 (.if_icmp .gt 38) 38 21 56 := by decide +kernel
theorem d_S_airFor_21 : dI prog_1_method_23_code 21 (.aload_n 0) 1 22 := by decide +kernel
theorem d_S_airFor_22 : dI prog_1_method_23_code 22 (.getfield 26) 3 25 := by decide +kernel
theorem d_S_airFor_25 : dI prog_1_method_23_code 25 (.aload_n 0) 1 26 := by decide +kernel
theorem d_S_airFor_26 : dI prog_1_method_23_code 26 (.getfield 10) 3 29 := by decide +kernel
theorem d_S_airFor_29 : dI prog_1_method_23_code 29 (.getfield 29) 3 32 := by decide +kernel
theorem d_S_airFor_32 : dI prog_1_method_23_code 32 (.iload_n 1) 1 33 := by decide +kernel
theorem d_S_airFor_33 : dI prog_1_method_23_code 33 .iaload 1 34 := by decide +kernel
theorem d_S_airFor_34 : dI prog_1_method_23_code 34 (.iload_n 2) 1 35 := by decide +kernel
theorem d_S_airFor_35 : dI prog_1_method_23_code 35 (.invokevirtual 74) 3 38 := by decide +kernel
theorem d_S_airFor_38 : dI prog_1_method_23_code 38 (.aload_n 0) 1 39 := by decide +kernel
theorem d_S_airFor_39 : dI prog_1_method_23_code 39 (.getfield 26) 3 42 := by decide +kernel
theorem d_S_airFor_42 : dI prog_1_method_23_code 42 (.invokevirtual 91) 3 45 := by decide +kernel
theorem d_S_airFor_45 : dJ prog_1_method_23_code 45 (.if_icmp .lt 5) 5 48 50 := by decide +kernel
theorem d_S_airFor_48 : dI prog_1_method_23_code 48 (.iload_n 2) 1 49 := by decide +kernel
theorem d_S_airFor_49 : decode prog_1_method_23_code 49 = .ok (.ireturn, 1) := by decide +kernel
theorem d_S_airFor_50 : dI prog_1_method_23_code 50 (.iinc 2 1) 3 53 ∧ Int32.ofInt 1 = 1 := by decide +kernel
theorem d_S_airFor_53 : dJ prog_1_method_23_code 53 (.goto (-38)) (-38) 56 15 := by decide +kernel
theorem d_S_airFor_56 : dI prog_1_method_23_code 56 (.aload_n 0) 1 57 := by decide +kernel
theorem d_S_airFor_57 : dI prog_1_method_23_code 57 (.iconst 3) 1 58 ∧ Int32.ofInt 3 = 3 := by decide +kernel
theorem d_S_airFor_58 : dI prog_1_method_23_code 58 (.invokevirtual 67) 3 61 := by decide +kernel
theorem d_S_airFor_61 : decode prog_1_method_23_code 61 = .ok (.ireturn, 1) := by decide +kernel
theorem d_S_sacksFor_0 : dI prog_1_method_24_code 0 (.iload_n 1) 1 1 := by decide +kernel
theorem d_S_sacksFor_1 : dI prog_1_method_24_code 1 (.invokestatic 63) 3 4 := by decide +kernel
theorem d_S_sacksFor_4 : dJ prog_1_method_24_code 4 (.ifCond .ne 9) 9 7 13 := by decide +kernel
theorem d_S_sacksFor_7 : dI prog_1_method_24_code 7 (.aload_n 0) 1 8 := by decide +kernel
theorem d_S_sacksFor_8 : dI prog_1_method_24_code 8 (.iconst 0) 1 9 ∧ Int32.ofInt 0 = 0 := by decide +kernel
theorem d_S_sacksFor_9 : dI prog_1_method_24_code 9 (.invokevirtual 67) 3 12 := by decide +kernel
theorem d_S_sacksFor_12 : decode prog_1_method_24_code 12 = .ok (.ireturn, 1) := by decide +kernel
theorem d_S_sacksFor_13 : dI prog_1_method_24_code 13 (.aload_n 0) 1 14 := by decide +kernel
theorem d_S_sacksFor_14 : dI prog_1_method_24_code 14 (.getfield 26) 3 17 := by decide +kernel
theorem d_S_sacksFor_17 : dI prog_1_method_24_code 17 (.aload_n 0) 1 18 := by decide +kernel
theorem d_S_sacksFor_18 : dI prog_1_method_24_code 18 (.getfield 10) 3 21 := by decide +kernel
theorem d_S_sacksFor_21 : dI prog_1_method_24_code 21 (.getfield 29) 3 24 := by decide +kernel
theorem d_S_sacksFor_24 : dI prog_1_method_24_code 24 (.iload_n 1) 1 25 := by decide +kernel
theorem d_S_sacksFor_25 : dI prog_1_method_24_code 25 .iaload 1 26 := by decide +kernel
theorem d_S_sacksFor_26 : dI prog_1_method_24_code 26 (.aload_n 0) 1 27 := by decide +kernel
theorem d_S_sacksFor_27 : dI prog_1_method_24_code 27 (.getfield 26) 3 30 := by decide +kernel
theorem d_S_sacksFor_30 : dI prog_1_method_24_code 30 (.getfield 71) 3 33 := by decide +kernel
theorem d_S_sacksFor_33 : dI prog_1_method_24_code 33 (.iconst 3) 1 34 ∧ Int32.ofInt 3 = 3 := by decide +kernel
theorem d_S_sacksFor_34 : dI prog_1_method_24_code 34 .iaload 1 35 := by decide +kernel
theorem d_S_sacksFor_35 : dI prog_1_method_24_code 35 (.invokevirtual 74) 3 38 := by decide +kernel
theorem d_S_sacksFor_38 : dI prog_1_method_24_code 38 (.istore_n 2) 1 39 := by decide +kernel
theorem d_S_sacksFor_39 : dI prog_1_method_24_code 39 (.bipush 99) 2 41 ∧ (Int8.ofInt 99).toInt32 = 99 := by decide +kernel
theorem d_S_sacksFor_41 : dI prog_1_method_24_code 41 (.istore_n 3) 1 42 := by decide +kernel
theorem d_S_sacksFor_42 : dI prog_1_method_24_code 42 (.iload_n 3) 1 43 := by decide +kernel
theorem d_S_sacksFor_43 : dJ prog_1_method_24_code 43 (.ifCond .lt 20) 20 46 63 := by decide +kernel
theorem d_S_sacksFor_46 : dI prog_1_method_24_code 46 (.iload_n 2) 1 47 := by decide +kernel
theorem d_S_sacksFor_47 : dI prog_1_method_24_code 47 (.iload_n 3) 1 48 := by decide +kernel
theorem d_S_sacksFor_48 : dI prog_1_method_24_code 48 (.iconst 0) 1 49 ∧ Int32.ofInt 0 = 0 := by decide +kernel
theorem d_S_sacksFor_49 : dI prog_1_method_24_code 49 (.invokestatic 181) 3 52 := by decide +kernel
theorem d_S_sacksFor_52 : dJ prog_1_method_24_code 52 (.if_icmp .lt 5) 5 55 57 := by decide +kernel
theorem d_S_sacksFor_55 : dI prog_1_method_24_code 55 (.iload_n 3) 1 56 := by decide +kernel
theorem d_S_sacksFor_56 : decode prog_1_method_24_code 56 = .ok (.ireturn, 1) := by decide +kernel
theorem d_S_sacksFor_57 : dI prog_1_method_24_code 57 (.iinc 3 (-1)) 3 60 ∧ Int32.ofInt (-1) = (-1) := by decide +kernel
theorem d_S_sacksFor_60 : dJ prog_1_method_24_code 60 (.goto (-18)) (-18) 63 42 := by decide +kernel
theorem d_S_sacksFor_63 : dI prog_1_method_24_code 63 (.aload_n 0) 1 64 := by decide +kernel
theorem d_S_sacksFor_64 : dI prog_1_method_24_code 64 (.iconst 3) 1 65 ∧ Int32.ofInt 3 = 3 := by decide +kernel
theorem d_S_sacksFor_65 : dI prog_1_method_24_code 65 (.invokevirtual 67) 3 68 := by decide +kernel
theorem d_S_sacksFor_68 : decode prog_1_method_24_code 68 = .ok (.ireturn, 1) := by decide +kernel
theorem d_S_waterFor_0 : dI prog_1_method_25_code 0 (.aload_n 0) 1 1 := by decide +kernel
theorem d_S_waterFor_1 : dI prog_1_method_25_code 1 (.getfield 36) 3 4 := by decide +kernel
theorem d_S_waterFor_4 : dI prog_1_method_25_code 4 (.aload_n 0) 1 5 := by decide +kernel
theorem d_S_waterFor_5 : dI prog_1_method_25_code 5 (.getfield 26) 3 8 := by decide +kernel
theorem d_S_waterFor_8 : dI prog_1_method_25_code 8 (.invokevirtual 122) 3 11 := by decide +kernel
theorem d_S_waterFor_11 : dI prog_1_method_25_code 11 (.aload_n 0) 1 12 := by decide +kernel
theorem d_S_waterFor_12 : dI prog_1_method_25_code 12 (.getfield 36) 3 15 := by decide +kernel
theorem d_S_waterFor_15 : dI prog_1_method_25_code 15 (.getfield 71) 3 18 := by decide +kernel
theorem d_S_waterFor_18 : dI prog_1_method_25_code 18 (.bipush 6) 2 20 ∧ (Int8.ofInt 6).toInt32 = 6 := by decide +kernel
theorem d_S_waterFor_20 : dI prog_1_method_25_code 20 (.sipush 9999) 3 23 ∧ (Int16.ofInt 9999).toInt32 = 9999 := by decide +kernel
theorem d_S_waterFor_23 : dI prog_1_method_25_code 23 .iastore 1 24 := by decide +kernel
theorem d_S_waterFor_24 : dI prog_1_method_25_code 24 (.aload_n 0) 1 25 := by decide +kernel
theorem d_S_waterFor_25 : dI prog_1_method_25_code 25 (.getfield 10) 3 28 := by decide +kernel
theorem d_S_waterFor_28 : dI prog_1_method_25_code 28 (.aload_n 0) 1 29 := by decide +kernel
theorem d_S_waterFor_29 : dI prog_1_method_25_code 29 (.getfield 36) 3 32 := by decide +kernel
theorem d_S_waterFor_32 : dI prog_1_method_25_code 32 (.invokevirtual 157) 3 35 := by decide +kernel
theorem d_S_waterFor_35 : dI prog_1_method_25_code 35 (.aload_n 0) 1 36 := by decide +kernel
theorem d_S_waterFor_36 : dI prog_1_method_25_code 36 (.getfield 10) 3 39 := by decide +kernel
theorem d_S_waterFor_39 : dI prog_1_method_25_code 39 (.getfield 151) 3 42 := by decide +kernel
theorem d_S_waterFor_42 : dJ prog_1_method_25_code 42 (.if_icmp .ge 9) 9 45 51 := by decide +kernel
theorem d_S_waterFor_45 : dI prog_1_method_25_code 45 (.aload_n 0) 1 46 := by decide +kernel
theorem d_S_waterFor_46 : dI prog_1_method_25_code 46 (.iconst 3) 1 47 ∧ Int32.ofInt 3 = 3 := by decide +kernel
theorem d_S_waterFor_47 : dI prog_1_method_25_code 47 (.invokevirtual 67) 3 50 := by decide +kernel
theorem d_S_waterFor_50 : decode prog_1_method_25_code 50 = .ok (.ireturn, 1) := by decide +kernel
theorem d_S_waterFor_51 : dI prog_1_method_25_code 51 (.aload_n 0) 1 52 := by decide +kernel
theorem d_S_waterFor_52 : dI prog_1_method_25_code 52 (.getfield 36) 3 55 := by decide +kernel
theorem d_S_waterFor_55 : dI prog_1_method_25_code 55 (.aload_n 0) 1 56 := by decide +kernel
theorem d_S_waterFor_56 : dI prog_1_method_25_code 56 (.getfield 26) 3 59 := by decide +kernel
theorem d_S_waterFor_59 : dI prog_1_method_25_code 59 (.bipush 8) 2 61 ∧ (Int8.ofInt 8).toInt32 = 8 := by decide +kernel
theorem d_S_waterFor_61 : dI prog_1_method_25_code 61 (.invokevirtual 126) 3 64 := by decide +kernel
theorem d_S_waterFor_64 : decode prog_1_method_25_code 64 = .ok (.ireturn, 1) := by decide +kernel
theorem d_S_boardsFor_0 : dI prog_1_method_26_code 0 (.iload_n 1) 1 1 := by decide +kernel
theorem d_S_boardsFor_1 : dI prog_1_method_26_code 1 (.iconst 1) 1 2 ∧ Int32.ofInt 1 = 1 := by decide +kernel
theorem d_S_boardsFor_2 : dJ prog_1_method_26_code 2 (.if_icmp .lt 9) 9 5 11 := by decide +kernel
theorem d_S_boardsFor_5 : dI prog_1_method_26_code 5 (.iload_n 1) 1 6 := by decide +kernel
theorem d_S_boardsFor_6 : dI prog_1_method_26_code 6 (.bipush 9) 2 8 ∧ (Int8.ofInt 9).toInt32 = 9 := by decide +kernel
theorem d_S_boardsFor_8 : dJ prog_1_method_26_code 8 (.if_icmp .le 9) 9 11 17 := by decide +kernel
theorem d_S_boardsFor_11 : dI prog_1_method_26_code 11 (.aload_n 0) 1 12 := by decide +kernel
theorem d_S_boardsFor_12 : dI prog_1_method_26_code 12 (.iconst 0) 1 13 ∧ Int32.ofInt 0 = 0 := by decide +kernel
theorem d_S_boardsFor_13 : dI prog_1_method_26_code 13 (.invokevirtual 67) 3 16 := by decide +kernel
theorem d_S_boardsFor_16 : decode prog_1_method_26_code 16 = .ok (.ireturn, 1) := by decide +kernel
theorem d_S_boardsFor_17 : dI prog_1_method_26_code 17 (.iconst 0) 1 18 ∧ Int32.ofInt 0 = 0 := by decide +kernel
theorem d_S_boardsFor_18 : dI prog_1_method_26_code 18 (.istore_n 2) 1 19 := by decide +kernel
theorem d_S_boardsFor_19 : dI prog_1_method_26_code 19 (.iload_n 2) 1 20 := by decide +kernel
theorem d_S_boardsFor_20 : dI prog_1_method_26_code 20 (.bipush 8) 2 22 ∧ (Int8.ofInt 8).toInt32 = 8 := by decide +kernel
theorem d_S_boardsFor_22 : dJ prog_1_method_26_code 22 (.if_icmp .gt 59) 59 25 81 := by decide +kernel
theorem d_S_boardsFor_25 : dI prog_1_method_26_code 25 (.aload_n 0) 1 26 := by decide +kernel
theorem d_S_boardsFor_26 : dI prog_1_method_26_code 26 (.getfield 36) 3 29 := by decide +kernel
theorem d_S_boardsFor_29 : dI prog_1_method_26_code 29 (.aload_n 0) 1 30 := by decide +kernel
theorem d_S_boardsFor_30 : dI prog_1_method_26_code 30 (.getfield 26) 3 33 := by decide +kernel
theorem d_S_boardsFor_33 : dI prog_1_method_26_code 33 (.invokevirtual 122) 3 36 := by decide +kernel
theorem d_S_boardsFor_36 : dI prog_1_method_26_code 36 (.aload_n 0) 1 37 := by decide +kernel
theorem d_S_boardsFor_37 : dI prog_1_method_26_code 37 (.getfield 36) 3 40 := by decide +kernel
theorem d_S_boardsFor_40 : dI prog_1_method_26_code 40 (.getfield 71) 3 43 := by decide +kernel
theorem d_S_boardsFor_43 : dI prog_1_method_26_code 43 (.iconst 4) 1 44 ∧ Int32.ofInt 4 = 4 := by decide +kernel
theorem d_S_boardsFor_44 : dI prog_1_method_26_code 44 (.iload_n 2) 1 45 := by decide +kernel
theorem d_S_boardsFor_45 : dI prog_1_method_26_code 45 .iastore 1 46 := by decide +kernel
theorem d_S_boardsFor_46 : dI prog_1_method_26_code 46 (.aload_n 0) 1 47 := by decide +kernel
theorem d_S_boardsFor_47 : dI prog_1_method_26_code 47 (.getfield 36) 3 50 := by decide +kernel
theorem d_S_boardsFor_50 : dI prog_1_method_26_code 50 (.iconst 2) 1 51 ∧ Int32.ofInt 2 = 2 := by decide +kernel
theorem d_S_boardsFor_51 : dI prog_1_method_26_code 51 (.invokevirtual 119) 3 54 := by decide +kernel
theorem d_S_boardsFor_54 : dJ prog_1_method_26_code 54 (.ifCond .eq 21) 21 57 75 := by decide +kernel
theorem d_S_boardsFor_57 : dI prog_1_method_26_code 57 (.aload_n 0) 1 58 := by decide +kernel
theorem d_S_boardsFor_58 : dI prog_1_method_26_code 58 (.getfield 36) 3 61 := by decide +kernel
theorem d_S_boardsFor_61 : dI prog_1_method_26_code 61 (.aload_n 0) 1 62 := by decide +kernel
theorem d_S_boardsFor_62 : dI prog_1_method_26_code 62 (.getfield 26) 3 65 := by decide +kernel
theorem d_S_boardsFor_65 : dI prog_1_method_26_code 65 (.iconst 0) 1 66 ∧ Int32.ofInt 0 = 0 := by decide +kernel
theorem d_S_boardsFor_66 : dI prog_1_method_26_code 66 (.invokevirtual 126) 3 69 := by decide +kernel
theorem d_S_boardsFor_69 : dI prog_1_method_26_code 69 (.iload_n 1) 1 70 := by decide +kernel
theorem d_S_boardsFor_70 : dJ prog_1_method_26_code 70 (.if_icmp .lt 5) 5 73 75 := by decide +kernel
theorem d_S_boardsFor_73 : dI prog_1_method_26_code 73 (.iload_n 2) 1 74 := by decide +kernel
theorem d_S_boardsFor_74 : decode prog_1_method_26_code 74 = .ok (.ireturn, 1) := by decide +kernel
theorem d_S_boardsFor_75 : dI prog_1_method_26_code 75 (.iinc 2 1) 3 78 ∧ Int32.ofInt 1 = 1 := by decide +kernel
theorem d_S_boardsFor_78 : dJ prog_1_method_26_code 78 (.goto (-59)) (-59) 81 19 := by decide +kernel
theorem d_S_boardsFor_81 : dI prog_1_method_26_code 81 (.aload_n 0) 1 82 := by decide +kernel
theorem d_S_boardsFor_82 : dI prog_1_method_26_code 82 (.iconst 3) 1 83 ∧ Int32.ofInt 3 = 3 := by decide +kernel
theorem d_S_boardsFor_83 : dI prog_1_method_26_code 83 (.invokevirtual 67) 3 86 := by decide +kernel
theorem d_S_boardsFor_86 : decode prog_1_method_26_code 86 = .ok (.ireturn, 1) := by decide +kernel
theorem d_S_way_0 : dI prog_1_method_27_code 0 (.aload_n 0) 1 1 := by decide +kernel
theorem d_S_way_1 : dI prog_1_method_27_code 1 (.iconst 0) 1 2 ∧ Int32.ofInt 0 = 0 := by decide +kernel
theorem d_S_way_2 : dI prog_1_method_27_code 2 (.bipush 20) 2 4 ∧ (Int8.ofInt 20).toInt32 = 20 := by decide +kernel
theorem d_S_way_4 : dI prog_1_method_27_code 4 (.invokevirtual 130) 3 7 := by decide +kernel
theorem d_S_way_7 : dI prog_1_method_27_code 7 (.istore_n 1) 1 8 := by decide +kernel
theorem d_S_way_8 : dI prog_1_method_27_code 8 (.aload_n 0) 1 9 := by decide +kernel
theorem d_S_way_9 : dI prog_1_method_27_code 9 (.bipush 6) 2 11 ∧ (Int8.ofInt 6).toInt32 = 6 := by decide +kernel
theorem d_S_way_11 : dI prog_1_method_27_code 11 (.bipush 20) 2 13 ∧ (Int8.ofInt 20).toInt32 = 20 := by decide +kernel
theorem d_S_way_13 : dI prog_1_method_27_code 13 (.invokevirtual 130) 3 16 := by decide +kernel
theorem d_S_way_16 : dI prog_1_method_27_code 16 (.istore_n 2) 1 17 := by decide +kernel
theorem d_S_way_17 : dI prog_1_method_27_code 17 (.iload_n 1) 1 18 := by decide +kernel
theorem d_S_way_18 : dJ prog_1_method_27_code 18 (.ifCond .ge 9) 9 21 27 := by decide +kernel
theorem d_S_way_21 : dI prog_1_method_27_code 21 (.iload_n 2) 1 22 := by decide +kernel
theorem d_S_way_22 : dJ prog_1_method_27_code 22 (.ifCond .ge 5) 5 25 27 := by decide +kernel
theorem d_S_way_25 : dI prog_1_method_27_code 25 (.iconst 0) 1 26 ∧ Int32.ofInt 0 = 0 := by decide +kernel
theorem d_S_way_26 : decode prog_1_method_27_code 26 = .ok (.ireturn, 1) := by decide +kernel
theorem d_S_way_27 : dI prog_1_method_27_code 27 (.iload_n 2) 1 28 := by decide +kernel
theorem d_S_way_28 : dJ prog_1_method_27_code 28 (.ifCond .lt 12) 12 31 40 := by decide +kernel
theorem d_S_way_31 : dI prog_1_method_27_code 31 (.iload_n 1) 1 32 := by decide +kernel
theorem d_S_way_32 : dJ prog_1_method_27_code 32 (.ifCond .lt 12) 12 35 44 := by decide +kernel
theorem d_S_way_35 : dI prog_1_method_27_code 35 (.iload_n 1) 1 36 := by decide +kernel
theorem d_S_way_36 : dI prog_1_method_27_code 36 (.iload_n 2) 1 37 := by decide +kernel
theorem d_S_way_37 : dJ prog_1_method_27_code 37 (.if_icmp .gt 7) 7 40 44 := by decide +kernel
theorem d_S_way_40 : dI prog_1_method_27_code 40 (.iconst 1) 1 41 ∧ Int32.ofInt 1 = 1 := by decide +kernel
theorem d_S_way_41 : dJ prog_1_method_27_code 41 (.goto 4) 4 44 45 := by decide +kernel
theorem d_S_way_44 : dI prog_1_method_27_code 44 (.iconst (-1)) 1 45 ∧ Int32.ofInt (-1) = (-1) := by decide +kernel
theorem d_S_way_45 : decode prog_1_method_27_code 45 = .ok (.ireturn, 1) := by decide +kernel
theorem d_S_odds_0 : dI prog_1_method_28_code 0 (.iload_n 1) 1 1 := by decide +kernel
theorem d_S_odds_1 : dI prog_1_method_28_code 1 (.iconst 1) 1 2 ∧ Int32.ofInt 1 = 1 := by decide +kernel
theorem d_S_odds_2 : dJ prog_1_method_28_code 2 (.if_icmp .lt 9) 9 5 11 := by decide +kernel
theorem d_S_odds_5 : dI prog_1_method_28_code 5 (.iload_n 1) 1 6 := by decide +kernel
theorem d_S_odds_6 : dI prog_1_method_28_code 6 (.bipush 20) 2 8 ∧ (Int8.ofInt 20).toInt32 = 20 := by decide +kernel
theorem d_S_odds_8 : dJ prog_1_method_28_code 8 (.if_icmp .le 9) 9 11 17 := by decide +kernel
theorem d_S_odds_11 : dI prog_1_method_28_code 11 (.aload_n 0) 1 12 := by decide +kernel
theorem d_S_odds_12 : dI prog_1_method_28_code 12 (.iconst 0) 1 13 ∧ Int32.ofInt 0 = 0 := by decide +kernel
theorem d_S_odds_13 : dI prog_1_method_28_code 13 (.invokevirtual 67) 3 16 := by decide +kernel
theorem d_S_odds_16 : decode prog_1_method_28_code 16 = .ok (.ireturn, 1) := by decide +kernel
theorem d_S_odds_17 : dI prog_1_method_28_code 17 (.aload_n 0) 1 18 := by decide +kernel
theorem d_S_odds_18 : dI prog_1_method_28_code 18 (.getfield 26) 3 21 := by decide +kernel
theorem d_S_odds_21 : dI prog_1_method_28_code 21 (.invokevirtual 94) 3 24 := by decide +kernel
theorem d_S_odds_24 : dJ prog_1_method_28_code 24 (.ifCond .eq 9) 9 27 33 := by decide +kernel
theorem d_S_odds_27 : dI prog_1_method_28_code 27 (.aload_n 0) 1 28 := by decide +kernel
theorem d_S_odds_28 : dI prog_1_method_28_code 28 (.iconst 4) 1 29 ∧ Int32.ofInt 4 = 4 := by decide +kernel
theorem d_S_odds_29 : dI prog_1_method_28_code 29 (.invokevirtual 67) 3 32 := by decide +kernel
theorem d_S_odds_32 : decode prog_1_method_28_code 32 = .ok (.ireturn, 1) := by decide +kernel
theorem d_S_odds_33 : dI prog_1_method_28_code 33 (.iconst 0) 1 34 ∧ Int32.ofInt 0 = 0 := by decide +kernel
theorem d_S_odds_34 : dI prog_1_method_28_code 34 (.istore_n 2) 1 35 := by decide +kernel
theorem d_S_odds_35 : dI prog_1_method_28_code 35 (.iconst 0) 1 36 ∧ Int32.ofInt 0 = 0 := by decide +kernel
theorem d_S_odds_36 : dI prog_1_method_28_code 36 (.istore_n 3) 1 37 := by decide +kernel
theorem d_S_odds_37 : dI prog_1_method_28_code 37 (.iload_n 3) 1 38 := by decide +kernel
theorem d_S_odds_38 : dI prog_1_method_28_code 38 (.iload_n 1) 1 39 := by decide +kernel
theorem d_S_odds_39 : dJ prog_1_method_28_code 39 (.if_icmp .ge 52) 52 42 91 := by decide +kernel
theorem d_S_odds_42 : dI prog_1_method_28_code 42 (.aload_n 0) 1 43 := by decide +kernel
theorem d_S_odds_43 : dI prog_1_method_28_code 43 (.getfield 10) 3 46 := by decide +kernel
theorem d_S_odds_46 : dI prog_1_method_28_code 46 (.invokevirtual 98) 3 49 := by decide +kernel
theorem d_S_odds_49 : dI prog_1_method_28_code 49 (.bipush 100) 2 51 ∧ (Int8.ofInt 100).toInt32 = 100 := by decide +kernel
theorem d_S_odds_51 : dI prog_1_method_28_code 51 .irem 1 52 := by decide +kernel
theorem d_S_odds_52 : dI prog_1_method_28_code 52 (.istore 4) 2 54 := by decide +kernel
theorem d_S_odds_54 : dI prog_1_method_28_code 54 (.aload_n 0) 1 55 := by decide +kernel
theorem d_S_odds_55 : dI prog_1_method_28_code 55 (.getfield 26) 3 58 := by decide +kernel
theorem d_S_odds_58 : dI prog_1_method_28_code 58 (.iload 4) 2 60 := by decide +kernel
theorem d_S_odds_60 : dI prog_1_method_28_code 60 (.aload_n 0) 1 61 := by decide +kernel
theorem d_S_odds_61 : dI prog_1_method_28_code 61 (.getfield 26) 3 64 := by decide +kernel
theorem d_S_odds_64 : dI prog_1_method_28_code 64 (.getfield 71) 3 67 := by decide +kernel
theorem d_S_odds_67 : dI prog_1_method_28_code 67 (.iconst 3) 1 68 ∧ Int32.ofInt 3 = 3 := by decide +kernel
theorem d_S_odds_68 : dI prog_1_method_28_code 68 .iaload 1 69 := by decide +kernel
theorem d_S_odds_69 : dI prog_1_method_28_code 69 (.invokevirtual 74) 3 72 := by decide +kernel
theorem d_S_odds_72 : dI prog_1_method_28_code 72 (.aload_n 0) 1 73 := by decide +kernel
theorem d_S_odds_73 : dI prog_1_method_28_code 73 (.getfield 26) 3 76 := by decide +kernel
theorem d_S_odds_76 : dI prog_1_method_28_code 76 (.invokevirtual 91) 3 79 := by decide +kernel
theorem d_S_odds_79 : dJ prog_1_method_28_code 79 (.if_icmp .lt 6) 6 82 85 := by decide +kernel
theorem d_S_odds_82 : dI prog_1_method_28_code 82 (.iinc 2 1) 3 85 ∧ Int32.ofInt 1 = 1 := by decide +kernel
theorem d_S_odds_85 : dI prog_1_method_28_code 85 (.iinc 3 1) 3 88 ∧ Int32.ofInt 1 = 1 := by decide +kernel
theorem d_S_odds_88 : dJ prog_1_method_28_code 88 (.goto (-51)) (-51) 91 37 := by decide +kernel
theorem d_S_odds_91 : dI prog_1_method_28_code 91 (.iload_n 2) 1 92 := by decide +kernel
theorem d_S_odds_92 : decode prog_1_method_28_code 92 = .ok (.ireturn, 1) := by decide +kernel
theorem d_S_seed_0 : dI prog_1_method_29_code 0 (.aload_n 0) 1 1 := by decide +kernel
theorem d_S_seed_1 : dI prog_1_method_29_code 1 (.getfield 10) 3 4 := by decide +kernel
theorem d_S_seed_4 : dI prog_1_method_29_code 4 (.getfield 184) 3 7 := by decide +kernel
theorem d_S_seed_7 : dI prog_1_method_29_code 7 (.istore_n 2) 1 8 := by decide +kernel
theorem d_S_seed_8 : dI prog_1_method_29_code 8 (.aload_n 0) 1 9 := by decide +kernel
theorem d_S_seed_9 : dI prog_1_method_29_code 9 (.getfield 10) 3 12 := by decide +kernel
theorem d_S_seed_12 : dI prog_1_method_29_code 12 (.iload_n 1) 1 13 := by decide +kernel
theorem d_S_seed_13 : dI prog_1_method_29_code 13 (.putfield 184) 3 16 := by decide +kernel
theorem d_S_seed_16 : dI prog_1_method_29_code 16 (.iload_n 2) 1 17 := by decide +kernel
theorem d_S_seed_17 : decode prog_1_method_29_code 17 = .ok (.ireturn, 1) := by decide +kernel
theorem d_S_hold_0 : dI prog_1_method_30_code 0 (.iload_n 1) 1 1 := by decide +kernel
theorem d_S_hold_1 : dI prog_1_method_30_code 1 (.invokestatic 187) 3 4 := by decide +kernel
theorem d_S_hold_4 : dJ prog_1_method_30_code 4 (.ifCond .eq 15) 15 7 19 := by decide +kernel
theorem d_S_hold_7 : dI prog_1_method_30_code 7 (.iload_n 2) 1 8 := by decide +kernel
theorem d_S_hold_8 : dI prog_1_method_30_code 8 (.iconst (-1)) 1 9 ∧ Int32.ofInt (-1) = (-1) := by decide +kernel
theorem d_S_hold_9 : dJ prog_1_method_30_code 9 (.if_icmp .eq 16) 16 12 25 := by decide +kernel
theorem d_S_hold_12 : dI prog_1_method_30_code 12 (.iload_n 2) 1 13 := by decide +kernel
theorem d_S_hold_13 : dI prog_1_method_30_code 13 (.invokestatic 104) 3 16 := by decide +kernel
theorem d_S_hold_16 : dJ prog_1_method_30_code 16 (.ifCond .ne 9) 9 19 25 := by decide +kernel
theorem d_S_hold_19 : dI prog_1_method_30_code 19 (.aload_n 0) 1 20 := by decide +kernel
theorem d_S_hold_20 : dI prog_1_method_30_code 20 (.iconst 0) 1 21 ∧ Int32.ofInt 0 = 0 := by decide +kernel
theorem d_S_hold_21 : dI prog_1_method_30_code 21 (.invokevirtual 67) 3 24 := by decide +kernel
theorem d_S_hold_24 : decode prog_1_method_30_code 24 = .ok (.ireturn, 1) := by decide +kernel
theorem d_S_hold_25 : dI prog_1_method_30_code 25 (.aload_n 0) 1 26 := by decide +kernel
theorem d_S_hold_26 : dI prog_1_method_30_code 26 (.getfield 10) 3 29 := by decide +kernel
theorem d_S_hold_29 : dI prog_1_method_30_code 29 (.getfield 190) 3 32 := by decide +kernel
theorem d_S_hold_32 : dI prog_1_method_30_code 32 (.iload_n 1) 1 33 := by decide +kernel
theorem d_S_hold_33 : dI prog_1_method_30_code 33 (.iload_n 2) 1 34 := by decide +kernel
theorem d_S_hold_34 : dI prog_1_method_30_code 34 .iastore 1 35 := by decide +kernel
theorem d_S_hold_35 : dI prog_1_method_30_code 35 (.iconst 1) 1 36 ∧ Int32.ofInt 1 = 1 := by decide +kernel
theorem d_S_hold_36 : decode prog_1_method_30_code 36 = .ok (.ireturn, 1) := by decide +kernel
theorem d_S_as_0 : dI prog_1_method_31_code 0 (.iload_n 1) 1 1 := by decide +kernel
theorem d_S_as_1 : dI prog_1_method_31_code 1 (.invokestatic 187) 3 4 := by decide +kernel
theorem d_S_as_4 : dJ prog_1_method_31_code 4 (.ifCond .eq 13) 13 7 17 := by decide +kernel
theorem d_S_as_7 : dI prog_1_method_31_code 7 (.iload_n 2) 1 8 := by decide +kernel
theorem d_S_as_8 : dJ prog_1_method_31_code 8 (.ifCond .lt 9) 9 11 17 := by decide +kernel
theorem d_S_as_11 : dI prog_1_method_31_code 11 (.iload_n 2) 1 12 := by decide +kernel
theorem d_S_as_12 : dI prog_1_method_31_code 12 (.bipush 8) 2 14 ∧ (Int8.ofInt 8).toInt32 = 8 := by decide +kernel
theorem d_S_as_14 : dJ prog_1_method_31_code 14 (.if_icmp .lt 9) 9 17 23 := by decide +kernel
theorem d_S_as_17 : dI prog_1_method_31_code 17 (.aload_n 0) 1 18 := by decide +kernel
theorem d_S_as_18 : dI prog_1_method_31_code 18 (.iconst 0) 1 19 ∧ Int32.ofInt 0 = 0 := by decide +kernel
theorem d_S_as_19 : dI prog_1_method_31_code 19 (.invokevirtual 67) 3 22 := by decide +kernel
theorem d_S_as_22 : decode prog_1_method_31_code 22 = .ok (.ireturn, 1) := by decide +kernel
theorem d_S_as_23 : dI prog_1_method_31_code 23 (.aload_n 0) 1 24 := by decide +kernel
theorem d_S_as_24 : dI prog_1_method_31_code 24 (.getfield 10) 3 27 := by decide +kernel
theorem d_S_as_27 : dI prog_1_method_31_code 27 (.getfield 190) 3 30 := by decide +kernel
theorem d_S_as_30 : dI prog_1_method_31_code 30 (.iload_n 1) 1 31 := by decide +kernel
theorem d_S_as_31 : dI prog_1_method_31_code 31 .iaload 1 32 := by decide +kernel
theorem d_S_as_32 : dI prog_1_method_31_code 32 (.istore_n 3) 1 33 := by decide +kernel
theorem d_S_as_33 : dI prog_1_method_31_code 33 (.iload_n 3) 1 34 := by decide +kernel
theorem d_S_as_34 : dI prog_1_method_31_code 34 (.invokestatic 104) 3 37 := by decide +kernel
theorem d_S_as_37 : dJ prog_1_method_31_code 37 (.ifCond .eq 16) 16 40 53 := by decide +kernel
theorem d_S_as_40 : dI prog_1_method_31_code 40 (.aload_n 0) 1 41 := by decide +kernel
theorem d_S_as_41 : dI prog_1_method_31_code 41 (.getfield 10) 3 44 := by decide +kernel
theorem d_S_as_44 : dI prog_1_method_31_code 44 (.getfield 107) 3 47 := by decide +kernel
theorem d_S_as_47 : dI prog_1_method_31_code 47 (.iload_n 3) 1 48 := by decide +kernel
theorem d_S_as_48 : dI prog_1_method_31_code 48 .iaload 1 49 := by decide +kernel
theorem d_S_as_49 : dI prog_1_method_31_code 49 (.iconst (-1)) 1 50 ∧ Int32.ofInt (-1) = (-1) := by decide +kernel
theorem d_S_as_50 : dJ prog_1_method_31_code 50 (.if_icmp .ne 9) 9 53 59 := by decide +kernel
theorem d_S_as_53 : dI prog_1_method_31_code 53 (.aload_n 0) 1 54 := by decide +kernel
theorem d_S_as_54 : dI prog_1_method_31_code 54 (.iconst 5) 1 55 ∧ Int32.ofInt 5 = 5 := by decide +kernel
theorem d_S_as_55 : dI prog_1_method_31_code 55 (.invokevirtual 67) 3 58 := by decide +kernel
theorem d_S_as_58 : decode prog_1_method_31_code 58 = .ok (.ireturn, 1) := by decide +kernel
theorem d_S_as_59 : dI prog_1_method_31_code 59 (.aload_n 0) 1 60 := by decide +kernel
theorem d_S_as_60 : dI prog_1_method_31_code 60 (.getfield 10) 3 63 := by decide +kernel
theorem d_S_as_63 : dI prog_1_method_31_code 63 (.getfield 107) 3 66 := by decide +kernel
theorem d_S_as_66 : dI prog_1_method_31_code 66 (.iload_n 3) 1 67 := by decide +kernel
theorem d_S_as_67 : dI prog_1_method_31_code 67 .iaload 1 68 := by decide +kernel
theorem d_S_as_68 : dI prog_1_method_31_code 68 (.iload_n 2) 1 69 := by decide +kernel
theorem d_S_as_69 : dI prog_1_method_31_code 69 (.invokestatic 193) 3 72 := by decide +kernel
theorem d_S_as_72 : dJ prog_1_method_31_code 72 (.ifCond .eq 7) 7 75 79 := by decide +kernel
theorem d_S_as_75 : dI prog_1_method_31_code 75 (.iload_n 3) 1 76 := by decide +kernel
theorem d_S_as_76 : dJ prog_1_method_31_code 76 (.goto 8) 8 79 84 := by decide +kernel
theorem d_S_as_79 : dI prog_1_method_31_code 79 (.aload_n 0) 1 80 := by decide +kernel
theorem d_S_as_80 : dI prog_1_method_31_code 80 (.iconst 2) 1 81 ∧ Int32.ofInt 2 = 2 := by decide +kernel
theorem d_S_as_81 : dI prog_1_method_31_code 81 (.invokevirtual 67) 3 84 := by decide +kernel
theorem d_S_as_84 : decode prog_1_method_31_code 84 = .ok (.ireturn, 1) := by decide +kernel
theorem d_S_sheet_0 : dI prog_1_method_32_code 0 (.iload_n 1) 1 1 := by decide +kernel
theorem d_S_sheet_1 : dI prog_1_method_32_code 1 (.invokestatic 197) 3 4 := by decide +kernel
theorem d_S_sheet_4 : dJ prog_1_method_32_code 4 (.ifCond .eq 25) 25 7 29 := by decide +kernel
theorem d_S_sheet_7 : dI prog_1_method_32_code 7 (.iload_n 2) 1 8 := by decide +kernel
theorem d_S_sheet_8 : dJ prog_1_method_32_code 8 (.ifCond .eq 27) 27 11 35 := by decide +kernel
theorem d_S_sheet_11 : dI prog_1_method_32_code 11 (.iload_n 2) 1 12 := by decide +kernel
theorem d_S_sheet_12 : dI prog_1_method_32_code 12 (.bipush 8) 2 14 ∧ (Int8.ofInt 8).toInt32 = 8 := by decide +kernel
theorem d_S_sheet_14 : dJ prog_1_method_32_code 14 (.if_icmp .eq 21) 21 17 35 := by decide +kernel
theorem d_S_sheet_17 : dI prog_1_method_32_code 17 (.iload_n 2) 1 18 := by decide +kernel
theorem d_S_sheet_18 : dI prog_1_method_32_code 18 (.bipush 16) 2 20 ∧ (Int8.ofInt 16).toInt32 = 16 := by decide +kernel
theorem d_S_sheet_20 : dJ prog_1_method_32_code 20 (.if_icmp .eq 15) 15 23 35 := by decide +kernel
theorem d_S_sheet_23 : dI prog_1_method_32_code 23 (.iload_n 2) 1 24 := by decide +kernel
theorem d_S_sheet_24 : dI prog_1_method_32_code 24 (.bipush 32) 2 26 ∧ (Int8.ofInt 32).toInt32 = 32 := by decide +kernel
theorem d_S_sheet_26 : dJ prog_1_method_32_code 26 (.if_icmp .eq 9) 9 29 35 := by decide +kernel
theorem d_S_sheet_29 : dI prog_1_method_32_code 29 (.aload_n 0) 1 30 := by decide +kernel
theorem d_S_sheet_30 : dI prog_1_method_32_code 30 (.iconst 0) 1 31 ∧ Int32.ofInt 0 = 0 := by decide +kernel
theorem d_S_sheet_31 : dI prog_1_method_32_code 31 (.invokevirtual 67) 3 34 := by decide +kernel
theorem d_S_sheet_34 : decode prog_1_method_32_code 34 = .ok (.ireturn, 1) := by decide +kernel
theorem d_S_sheet_35 : dI prog_1_method_32_code 35 (.iload_n 3) 1 36 := by decide +kernel
theorem d_S_sheet_36 : dJ prog_1_method_32_code 36 (.ifCond .ge 10) 10 39 46 := by decide +kernel
theorem d_S_sheet_39 : dI prog_1_method_32_code 39 (.aload_n 0) 1 40 := by decide +kernel
theorem d_S_sheet_40 : dI prog_1_method_32_code 40 (.bipush 6) 2 42 ∧ (Int8.ofInt 6).toInt32 = 6 := by decide +kernel
theorem d_S_sheet_42 : dI prog_1_method_32_code 42 (.invokevirtual 67) 3 45 := by decide +kernel
theorem d_S_sheet_45 : decode prog_1_method_32_code 45 = .ok (.ireturn, 1) := by decide +kernel
theorem d_S_sheet_46 : dI prog_1_method_32_code 46 (.iload_n 3) 1 47 := by decide +kernel
theorem d_S_sheet_47 : dI prog_1_method_32_code 47 (.bipush 40) 2 49 ∧ (Int8.ofInt 40).toInt32 = 40 := by decide +kernel
theorem d_S_sheet_49 : dJ prog_1_method_32_code 49 (.if_icmp .le 9) 9 52 58 := by decide +kernel
theorem d_S_sheet_52 : dI prog_1_method_32_code 52 (.aload_n 0) 1 53 := by decide +kernel
theorem d_S_sheet_53 : dI prog_1_method_32_code 53 (.iconst 0) 1 54 ∧ Int32.ofInt 0 = 0 := by decide +kernel
theorem d_S_sheet_54 : dI prog_1_method_32_code 54 (.invokevirtual 67) 3 57 := by decide +kernel
theorem d_S_sheet_57 : decode prog_1_method_32_code 57 = .ok (.ireturn, 1) := by decide +kernel
theorem d_S_sheet_58 : dI prog_1_method_32_code 58 (.aload_n 0) 1 59 := by decide +kernel
theorem d_S_sheet_59 : dI prog_1_method_32_code 59 (.getfield 56) 3 62 := by decide +kernel
theorem d_S_sheet_62 : dI prog_1_method_32_code 62 (.iload_n 1) 1 63 := by decide +kernel
theorem d_S_sheet_63 : dI prog_1_method_32_code 63 .aaload 1 64 := by decide +kernel
theorem d_S_sheet_64 : dI prog_1_method_32_code 64 (.iload_n 2) 1 65 := by decide +kernel
theorem d_S_sheet_65 : dI prog_1_method_32_code 65 (.iload_n 3) 1 66 := by decide +kernel
theorem d_S_sheet_66 : dI prog_1_method_32_code 66 (.invokevirtual 200) 3 69 := by decide +kernel
theorem d_S_sheet_69 : dI prog_1_method_32_code 69 (.aload_n 0) 1 70 := by decide +kernel
theorem d_S_sheet_70 : dI prog_1_method_32_code 70 (.getfield 56) 3 73 := by decide +kernel
theorem d_S_sheet_73 : dI prog_1_method_32_code 73 (.iload_n 1) 1 74 := by decide +kernel
theorem d_S_sheet_74 : dI prog_1_method_32_code 74 .aaload 1 75 := by decide +kernel
theorem d_S_sheet_75 : dI prog_1_method_32_code 75 (.getfield 204) 3 78 := by decide +kernel
theorem d_S_sheet_78 : decode prog_1_method_32_code 78 = .ok (.ireturn, 1) := by decide +kernel
theorem d_S_write_0 : dI prog_1_method_33_code 0 (.iload_n 1) 1 1 := by decide +kernel
theorem d_S_write_1 : dI prog_1_method_33_code 1 (.invokestatic 197) 3 4 := by decide +kernel
theorem d_S_write_4 : dJ prog_1_method_33_code 4 (.ifCond .ne 9) 9 7 13 := by decide +kernel
theorem d_S_write_7 : dI prog_1_method_33_code 7 (.aload_n 0) 1 8 := by decide +kernel
theorem d_S_write_8 : dI prog_1_method_33_code 8 (.iconst 0) 1 9 ∧ Int32.ofInt 0 = 0 := by decide +kernel
theorem d_S_write_9 : dI prog_1_method_33_code 9 (.invokevirtual 67) 3 12 := by decide +kernel
theorem d_S_write_12 : decode prog_1_method_33_code 12 = .ok (.ireturn, 1) := by decide +kernel
theorem d_S_write_13 : dI prog_1_method_33_code 13 (.aload_n 0) 1 14 := by decide +kernel
theorem d_S_write_14 : dI prog_1_method_33_code 14 (.getfield 56) 3 17 := by decide +kernel
theorem d_S_write_17 : dI prog_1_method_33_code 17 (.iload_n 1) 1 18 := by decide +kernel
theorem d_S_write_18 : dI prog_1_method_33_code 18 .aaload 1 19 := by decide +kernel
theorem d_S_write_19 : dI prog_1_method_33_code 19 (.astore 4) 2 21 := by decide +kernel
theorem d_S_write_21 : dI prog_1_method_33_code 21 (.aload 4) 2 23 := by decide +kernel
theorem d_S_write_23 : dI prog_1_method_33_code 23 (.invokevirtual 207) 3 26 := by decide +kernel
theorem d_S_write_26 : dJ prog_1_method_33_code 26 (.ifCond .eq 9) 9 29 35 := by decide +kernel
theorem d_S_write_29 : dI prog_1_method_33_code 29 (.aload_n 0) 1 30 := by decide +kernel
theorem d_S_write_30 : dI prog_1_method_33_code 30 (.iconst 5) 1 31 ∧ Int32.ofInt 5 = 5 := by decide +kernel
theorem d_S_write_31 : dI prog_1_method_33_code 31 (.invokevirtual 67) 3 34 := by decide +kernel
theorem d_S_write_34 : decode prog_1_method_33_code 34 = .ok (.ireturn, 1) := by decide +kernel
theorem d_S_write_35 : dI prog_1_method_33_code 35 (.aload 4) 2 37 := by decide +kernel
theorem d_S_write_37 : dI prog_1_method_33_code 37 (.iload_n 2) 1 38 := by decide +kernel
theorem d_S_write_38 : dI prog_1_method_33_code 38 (.iconst 1) 1 39 ∧ Int32.ofInt 1 = 1 := by decide +kernel
theorem d_S_write_39 : dI prog_1_method_33_code 39 (.invokevirtual 210) 3 42 := by decide +kernel
theorem d_S_write_42 : dJ prog_1_method_33_code 42 (.ifCond .ne 9) 9 45 51 := by decide +kernel
theorem d_S_write_45 : dI prog_1_method_33_code 45 (.aload_n 0) 1 46 := by decide +kernel
theorem d_S_write_46 : dI prog_1_method_33_code 46 (.iconst 0) 1 47 ∧ Int32.ofInt 0 = 0 := by decide +kernel
theorem d_S_write_47 : dI prog_1_method_33_code 47 (.invokevirtual 67) 3 50 := by decide +kernel
theorem d_S_write_50 : decode prog_1_method_33_code 50 = .ok (.ireturn, 1) := by decide +kernel
theorem d_S_write_51 : dI prog_1_method_33_code 51 (.aload 4) 2 53 := by decide +kernel
theorem d_S_write_53 : dI prog_1_method_33_code 53 (.getfield 213) 3 56 := by decide +kernel
theorem d_S_write_56 : dI prog_1_method_33_code 56 (.iload_n 2) 1 57 := by decide +kernel
theorem d_S_write_57 : dI prog_1_method_33_code 57 (.aload 4) 2 59 := by decide +kernel
theorem d_S_write_59 : dI prog_1_method_33_code 59 (.iload_n 3) 1 60 := by decide +kernel
theorem d_S_write_60 : dI prog_1_method_33_code 60 (.invokevirtual 216) 3 63 := by decide +kernel
theorem d_S_write_63 : dI prog_1_method_33_code 63 .iastore 1 64 := by decide +kernel
theorem d_S_write_64 : dI prog_1_method_33_code 64 (.iconst 1) 1 65 ∧ Int32.ofInt 1 = 1 := by decide +kernel
theorem d_S_write_65 : decode prog_1_method_33_code 65 = .ok (.ireturn, 1) := by decide +kernel
theorem d_S_copy_0 : dI prog_1_method_34_code 0 (.iload_n 1) 1 1 := by decide +kernel
theorem d_S_copy_1 : dI prog_1_method_34_code 1 (.invokestatic 197) 3 4 := by decide +kernel
theorem d_S_copy_4 : dJ prog_1_method_34_code 4 (.ifCond .eq 10) 10 7 14 := by decide +kernel
theorem d_S_copy_7 : dI prog_1_method_34_code 7 (.iload_n 3) 1 8 := by decide +kernel
theorem d_S_copy_8 : dI prog_1_method_34_code 8 (.invokestatic 197) 3 11 := by decide +kernel
theorem d_S_copy_11 : dJ prog_1_method_34_code 11 (.ifCond .ne 9) 9 14 20 := by decide +kernel
theorem d_S_copy_14 : dI prog_1_method_34_code 14 (.aload_n 0) 1 15 := by decide +kernel
theorem d_S_copy_15 : dI prog_1_method_34_code 15 (.iconst 0) 1 16 ∧ Int32.ofInt 0 = 0 := by decide +kernel
theorem d_S_copy_16 : dI prog_1_method_34_code 16 (.invokevirtual 67) 3 19 := by decide +kernel
theorem d_S_copy_19 : decode prog_1_method_34_code 19 = .ok (.ireturn, 1) := by decide +kernel
theorem d_S_copy_20 : dI prog_1_method_34_code 20 (.aload_n 0) 1 21 := by decide +kernel
theorem d_S_copy_21 : dI prog_1_method_34_code 21 (.getfield 56) 3 24 := by decide +kernel
theorem d_S_copy_24 : dI prog_1_method_34_code 24 (.iload_n 1) 1 25 := by decide +kernel
theorem d_S_copy_25 : dI prog_1_method_34_code 25 .aaload 1 26 := by decide +kernel
theorem d_S_copy_26 : dI prog_1_method_34_code 26 (.astore 6) 2 28 := by decide +kernel
theorem d_S_copy_28 : dI prog_1_method_34_code 28 (.aload_n 0) 1 29 := by decide +kernel
theorem d_S_copy_29 : dI prog_1_method_34_code 29 (.getfield 56) 3 32 := by decide +kernel
theorem d_S_copy_32 : dI prog_1_method_34_code 32 (.iload_n 3) 1 33 := by decide +kernel
theorem d_S_copy_33 : dI prog_1_method_34_code 33 .aaload 1 34 := by decide +kernel
theorem d_S_copy_34 : dI prog_1_method_34_code 34 (.astore 7) 2 36 := by decide +kernel
theorem d_S_copy_36 : dI prog_1_method_34_code 36 (.aload 6) 2 38 := by decide +kernel
theorem d_S_copy_38 : dI prog_1_method_34_code 38 (.invokevirtual 207) 3 41 := by decide +kernel
theorem d_S_copy_41 : dJ prog_1_method_34_code 41 (.ifCond .ne 11) 11 44 52 := by decide +kernel
theorem d_S_copy_44 : dI prog_1_method_34_code 44 (.aload 7) 2 46 := by decide +kernel
theorem d_S_copy_46 : dI prog_1_method_34_code 46 (.invokevirtual 207) 3 49 := by decide +kernel
theorem d_S_copy_49 : dJ prog_1_method_34_code 49 (.ifCond .eq 9) 9 52 58 := by decide +kernel
theorem d_S_copy_52 : dI prog_1_method_34_code 52 (.aload_n 0) 1 53 := by decide +kernel
theorem d_S_copy_53 : dI prog_1_method_34_code 53 (.iconst 5) 1 54 ∧ Int32.ofInt 5 = 5 := by decide +kernel
theorem d_S_copy_54 : dI prog_1_method_34_code 54 (.invokevirtual 67) 3 57 := by decide +kernel
theorem d_S_copy_57 : decode prog_1_method_34_code 57 = .ok (.ireturn, 1) := by decide +kernel
theorem d_S_copy_58 : dI prog_1_method_34_code 58 (.aload 6) 2 60 := by decide +kernel
theorem d_S_copy_60 : dI prog_1_method_34_code 60 (.getfield 219) 3 63 := by decide +kernel
theorem d_S_copy_63 : dI prog_1_method_34_code 63 (.aload 7) 2 65 := by decide +kernel
theorem d_S_copy_65 : dI prog_1_method_34_code 65 (.getfield 219) 3 68 := by decide +kernel
theorem d_S_copy_68 : dJ prog_1_method_34_code 68 (.if_icmp .eq 9) 9 71 77 := by decide +kernel
theorem d_S_copy_71 : dI prog_1_method_34_code 71 (.aload_n 0) 1 72 := by decide +kernel
theorem d_S_copy_72 : dI prog_1_method_34_code 72 (.iconst 2) 1 73 ∧ Int32.ofInt 2 = 2 := by decide +kernel
theorem d_S_copy_73 : dI prog_1_method_34_code 73 (.invokevirtual 67) 3 76 := by decide +kernel
theorem d_S_copy_76 : decode prog_1_method_34_code 76 = .ok (.ireturn, 1) := by decide +kernel
theorem d_S_copy_77 : dI prog_1_method_34_code 77 (.aload 6) 2 79 := by decide +kernel
theorem d_S_copy_79 : dI prog_1_method_34_code 79 (.iload_n 2) 1 80 := by decide +kernel
theorem d_S_copy_80 : dI prog_1_method_34_code 80 (.iload 5) 2 82 := by decide +kernel
theorem d_S_copy_82 : dI prog_1_method_34_code 82 (.invokevirtual 210) 3 85 := by decide +kernel
theorem d_S_copy_85 : dJ prog_1_method_34_code 85 (.ifCond .eq 15) 15 88 100 := by decide +kernel
theorem d_S_copy_88 : dI prog_1_method_34_code 88 (.aload 7) 2 90 := by decide +kernel
theorem d_S_copy_90 : dI prog_1_method_34_code 90 (.iload 4) 2 92 := by decide +kernel
theorem d_S_copy_92 : dI prog_1_method_34_code 92 (.iload 5) 2 94 := by decide +kernel
theorem d_S_copy_94 : dI prog_1_method_34_code 94 (.invokevirtual 210) 3 97 := by decide +kernel
theorem d_S_copy_97 : dJ prog_1_method_34_code 97 (.ifCond .ne 9) 9 100 106 := by decide +kernel
theorem d_S_copy_100 : dI prog_1_method_34_code 100 (.aload_n 0) 1 101 := by decide +kernel
theorem d_S_copy_101 : dI prog_1_method_34_code 101 (.iconst 0) 1 102 ∧ Int32.ofInt 0 = 0 := by decide +kernel
theorem d_S_copy_102 : dI prog_1_method_34_code 102 (.invokevirtual 67) 3 105 := by decide +kernel
theorem d_S_copy_105 : decode prog_1_method_34_code 105 = .ok (.ireturn, 1) := by decide +kernel
theorem d_S_copy_106 : dI prog_1_method_34_code 106 (.aload 6) 2 108 := by decide +kernel
theorem d_S_copy_108 : dI prog_1_method_34_code 108 (.getfield 213) 3 111 := by decide +kernel
theorem d_S_copy_111 : dI prog_1_method_34_code 111 (.iload_n 2) 1 112 := by decide +kernel
theorem d_S_copy_112 : dI prog_1_method_34_code 112 (.aload 7) 2 114 := by decide +kernel
theorem d_S_copy_114 : dI prog_1_method_34_code 114 (.getfield 213) 3 117 := by decide +kernel
theorem d_S_copy_117 : dI prog_1_method_34_code 117 (.iload 4) 2 119 := by decide +kernel
theorem d_S_copy_119 : dI prog_1_method_34_code 119 (.iload 5) 2 121 := by decide +kernel
theorem d_S_copy_121 : dI prog_1_method_34_code 121 (.invokestatic 222) 3 124 := by decide +kernel
theorem d_S_copy_124 : dI prog_1_method_34_code 124 (.iload 5) 2 126 := by decide +kernel
theorem d_S_copy_126 : decode prog_1_method_34_code 126 = .ok (.ireturn, 1) := by decide +kernel
theorem d_S_load_0 : dI prog_1_method_35_code 0 (.iload_n 1) 1 1 := by decide +kernel
theorem d_S_load_1 : dI prog_1_method_35_code 1 (.invokestatic 197) 3 4 := by decide +kernel
theorem d_S_load_4 : dJ prog_1_method_35_code 4 (.ifCond .ne 9) 9 7 13 := by decide +kernel
theorem d_S_load_7 : dI prog_1_method_35_code 7 (.aload_n 0) 1 8 := by decide +kernel
theorem d_S_load_8 : dI prog_1_method_35_code 8 (.iconst 0) 1 9 ∧ Int32.ofInt 0 = 0 := by decide +kernel
theorem d_S_load_9 : dI prog_1_method_35_code 9 (.invokevirtual 67) 3 12 := by decide +kernel
theorem d_S_load_12 : decode prog_1_method_35_code 12 = .ok (.ireturn, 1) := by decide +kernel
theorem d_S_load_13 : dI prog_1_method_35_code 13 (.aload_n 0) 1 14 := by decide +kernel
theorem d_S_load_14 : dI prog_1_method_35_code 14 (.getfield 56) 3 17 := by decide +kernel
theorem d_S_load_17 : dI prog_1_method_35_code 17 (.iload_n 1) 1 18 := by decide +kernel
theorem d_S_load_18 : dI prog_1_method_35_code 18 .aaload 1 19 := by decide +kernel
theorem d_S_load_19 : dI prog_1_method_35_code 19 (.astore_n 3) 1 20 := by decide +kernel
theorem d_S_load_20 : dI prog_1_method_35_code 20 (.aload_n 3) 1 21 := by decide +kernel
theorem d_S_load_21 : dI prog_1_method_35_code 21 (.invokevirtual 207) 3 24 := by decide +kernel
theorem d_S_load_24 : dJ prog_1_method_35_code 24 (.ifCond .eq 9) 9 27 33 := by decide +kernel
theorem d_S_load_27 : dI prog_1_method_35_code 27 (.aload_n 0) 1 28 := by decide +kernel
theorem d_S_load_28 : dI prog_1_method_35_code 28 (.iconst 5) 1 29 ∧ Int32.ofInt 5 = 5 := by decide +kernel
theorem d_S_load_29 : dI prog_1_method_35_code 29 (.invokevirtual 67) 3 32 := by decide +kernel
theorem d_S_load_32 : decode prog_1_method_35_code 32 = .ok (.ireturn, 1) := by decide +kernel
theorem d_S_load_33 : dI prog_1_method_35_code 33 (.iload_n 2) 1 34 := by decide +kernel
theorem d_S_load_34 : dI prog_1_method_35_code 34 (.invokestatic 63) 3 37 := by decide +kernel
theorem d_S_load_37 : dJ prog_1_method_35_code 37 (.ifCond .ne 9) 9 40 46 := by decide +kernel
theorem d_S_load_40 : dI prog_1_method_35_code 40 (.aload_n 0) 1 41 := by decide +kernel
theorem d_S_load_41 : dI prog_1_method_35_code 41 (.iconst 0) 1 42 ∧ Int32.ofInt 0 = 0 := by decide +kernel
theorem d_S_load_42 : dI prog_1_method_35_code 42 (.invokevirtual 67) 3 45 := by decide +kernel
theorem d_S_load_45 : decode prog_1_method_35_code 45 = .ok (.ireturn, 1) := by decide +kernel
theorem d_S_load_46 : dI prog_1_method_35_code 46 (.aload_n 3) 1 47 := by decide +kernel
theorem d_S_load_47 : dI prog_1_method_35_code 47 (.getfield 204) 3 50 := by decide +kernel
theorem d_S_load_50 : dI prog_1_method_35_code 50 (.bipush 40) 2 52 ∧ (Int8.ofInt 40).toInt32 = 40 := by decide +kernel
theorem d_S_load_52 : dI prog_1_method_35_code 52 (.iload_n 2) 1 53 := by decide +kernel
theorem d_S_load_53 : dI prog_1_method_35_code 53 .isub 1 54 := by decide +kernel
theorem d_S_load_54 : dI prog_1_method_35_code 54 (.invokestatic 228) 3 57 := by decide +kernel
theorem d_S_load_57 : dI prog_1_method_35_code 57 (.istore 4) 2 59 := by decide +kernel
theorem d_S_load_59 : dI prog_1_method_35_code 59 (.iconst 0) 1 60 ∧ Int32.ofInt 0 = 0 := by decide +kernel
theorem d_S_load_60 : dI prog_1_method_35_code 60 (.istore 5) 2 62 := by decide +kernel
theorem d_S_load_62 : dI prog_1_method_35_code 62 (.iload 5) 2 64 := by decide +kernel
theorem d_S_load_64 : dI prog_1_method_35_code 64 (.iload 4) 2 66 := by decide +kernel
theorem d_S_load_66 : dJ prog_1_method_35_code 66 (.if_icmp .ge 50) 50 69 116 := by decide +kernel
theorem d_S_load_69 : dI prog_1_method_35_code 69 (.aload_n 3) 1 70 := by decide +kernel
theorem d_S_load_70 : dI prog_1_method_35_code 70 (.getfield 213) 3 73 := by decide +kernel
theorem d_S_load_73 : dI prog_1_method_35_code 73 (.iload 5) 2 75 := by decide +kernel
theorem d_S_load_75 : dI prog_1_method_35_code 75 .iaload 1 76 := by decide +kernel
theorem d_S_load_76 : dJ prog_1_method_35_code 76 (.ifCond .lt 40) 40 79 116 := by decide +kernel
theorem d_S_load_79 : dI prog_1_method_35_code 79 (.aload_n 3) 1 80 := by decide +kernel
theorem d_S_load_80 : dI prog_1_method_35_code 80 (.getfield 213) 3 83 := by decide +kernel
theorem d_S_load_83 : dI prog_1_method_35_code 83 (.iload 5) 2 85 := by decide +kernel
theorem d_S_load_85 : dI prog_1_method_35_code 85 .iaload 1 86 := by decide +kernel
theorem d_S_load_86 : dI prog_1_method_35_code 86 (.bipush 99) 2 88 ∧ (Int8.ofInt 99).toInt32 = 99 := by decide +kernel
theorem d_S_load_88 : dJ prog_1_method_35_code 88 (.if_icmp .gt 28) 28 91 116 := by decide +kernel
theorem d_S_load_91 : dI prog_1_method_35_code 91 (.aload_n 0) 1 92 := by decide +kernel
theorem d_S_load_92 : dI prog_1_method_35_code 92 (.getfield 10) 3 95 := by decide +kernel
theorem d_S_load_95 : dI prog_1_method_35_code 95 (.getfield 29) 3 98 := by decide +kernel
theorem d_S_load_98 : dI prog_1_method_35_code 98 (.iload_n 2) 1 99 := by decide +kernel
theorem d_S_load_99 : dI prog_1_method_35_code 99 (.iload 5) 2 101 := by decide +kernel
theorem d_S_load_101 : dI prog_1_method_35_code 101 .iadd 1 102 := by decide +kernel
theorem d_S_load_102 : dI prog_1_method_35_code 102 (.aload_n 3) 1 103 := by decide +kernel
theorem d_S_load_103 : dI prog_1_method_35_code 103 (.getfield 213) 3 106 := by decide +kernel
theorem d_S_load_106 : dI prog_1_method_35_code 106 (.iload 5) 2 108 := by decide +kernel
theorem d_S_load_108 : dI prog_1_method_35_code 108 .iaload 1 109 := by decide +kernel
theorem d_S_load_109 : dI prog_1_method_35_code 109 .iastore 1 110 := by decide +kernel
theorem d_S_load_110 : dI prog_1_method_35_code 110 (.iinc 5 1) 3 113 ∧ Int32.ofInt 1 = 1 := by decide +kernel
theorem d_S_load_113 : dJ prog_1_method_35_code 113 (.goto (-51)) (-51) 116 62 := by decide +kernel
theorem d_S_load_116 : dI prog_1_method_35_code 116 (.iload 5) 2 118 := by decide +kernel
theorem d_S_load_118 : decode prog_1_method_35_code 118 = .ok (.ireturn, 1) := by decide +kernel
theorem d_S_judge_0 : dI prog_1_method_36_code 0 (.iload_n 1) 1 1 := by decide +kernel
theorem d_S_judge_1 : dI prog_1_method_36_code 1 (.invokestatic 197) 3 4 := by decide +kernel
theorem d_S_judge_4 : dJ prog_1_method_36_code 4 (.ifCond .ne 9) 9 7 13 := by decide +kernel
theorem d_S_judge_7 : dI prog_1_method_36_code 7 (.aload_n 0) 1 8 := by decide +kernel
theorem d_S_judge_8 : dI prog_1_method_36_code 8 (.iconst 0) 1 9 ∧ Int32.ofInt 0 = 0 := by decide +kernel
theorem d_S_judge_9 : dI prog_1_method_36_code 9 (.invokevirtual 67) 3 12 := by decide +kernel
theorem d_S_judge_12 : decode prog_1_method_36_code 12 = .ok (.ireturn, 1) := by decide +kernel
theorem d_S_judge_13 : dI prog_1_method_36_code 13 (.aload_n 0) 1 14 := by decide +kernel
theorem d_S_judge_14 : dI prog_1_method_36_code 14 (.getfield 56) 3 17 := by decide +kernel
theorem d_S_judge_17 : dI prog_1_method_36_code 17 (.iload_n 1) 1 18 := by decide +kernel
theorem d_S_judge_18 : dI prog_1_method_36_code 18 .aaload 1 19 := by decide +kernel
theorem d_S_judge_19 : dI prog_1_method_36_code 19 (.astore_n 2) 1 20 := by decide +kernel
theorem d_S_judge_20 : dI prog_1_method_36_code 20 (.aload_n 2) 1 21 := by decide +kernel
theorem d_S_judge_21 : dI prog_1_method_36_code 21 (.invokevirtual 207) 3 24 := by decide +kernel
theorem d_S_judge_24 : dJ prog_1_method_36_code 24 (.ifCond .eq 9) 9 27 33 := by decide +kernel
theorem d_S_judge_27 : dI prog_1_method_36_code 27 (.aload_n 0) 1 28 := by decide +kernel
theorem d_S_judge_28 : dI prog_1_method_36_code 28 (.iconst 5) 1 29 ∧ Int32.ofInt 5 = 5 := by decide +kernel
theorem d_S_judge_29 : dI prog_1_method_36_code 29 (.invokevirtual 67) 3 32 := by decide +kernel
theorem d_S_judge_32 : decode prog_1_method_36_code 32 = .ok (.ireturn, 1) := by decide +kernel
theorem d_S_judge_33 : dI prog_1_method_36_code 33 (.aload_n 0) 1 34 := by decide +kernel
theorem d_S_judge_34 : dI prog_1_method_36_code 34 (.getfield 36) 3 37 := by decide +kernel
theorem d_S_judge_37 : dI prog_1_method_36_code 37 (.aload_n 0) 1 38 := by decide +kernel
theorem d_S_judge_38 : dI prog_1_method_36_code 38 (.getfield 26) 3 41 := by decide +kernel
theorem d_S_judge_41 : dI prog_1_method_36_code 41 (.invokevirtual 122) 3 44 := by decide +kernel
theorem d_S_judge_44 : dI prog_1_method_36_code 44 (.iconst 0) 1 45 ∧ Int32.ofInt 0 = 0 := by decide +kernel
theorem d_S_judge_45 : dI prog_1_method_36_code 45 (.istore_n 3) 1 46 := by decide +kernel
theorem d_S_judge_46 : dI prog_1_method_36_code 46 (.iload_n 3) 1 47 := by decide +kernel
theorem d_S_judge_47 : dI prog_1_method_36_code 47 (.aload_n 2) 1 48 := by decide +kernel
theorem d_S_judge_48 : dI prog_1_method_36_code 48 (.getfield 204) 3 51 := by decide +kernel
theorem d_S_judge_51 : dJ prog_1_method_36_code 51 (.if_icmp .ge 73) 73 54 124 := by decide +kernel
theorem d_S_judge_54 : dI prog_1_method_36_code 54 (.iload_n 3) 1 55 := by decide +kernel
theorem d_S_judge_55 : dI prog_1_method_36_code 55 (.aload_n 0) 1 56 := by decide +kernel
theorem d_S_judge_56 : dI prog_1_method_36_code 56 (.getfield 10) 3 59 := by decide +kernel
theorem d_S_judge_59 : dI prog_1_method_36_code 59 (.getfield 151) 3 62 := by decide +kernel
theorem d_S_judge_62 : dJ prog_1_method_36_code 62 (.if_icmp .ge 26) 26 65 88 := by decide +kernel
theorem d_S_judge_65 : dI prog_1_method_36_code 65 (.aload_n 0) 1 66 := by decide +kernel
theorem d_S_judge_66 : dI prog_1_method_36_code 66 (.getfield 36) 3 69 := by decide +kernel
theorem d_S_judge_69 : dI prog_1_method_36_code 69 (.aload_n 0) 1 70 := by decide +kernel
theorem d_S_judge_70 : dI prog_1_method_36_code 70 (.getfield 10) 3 73 := by decide +kernel
theorem d_S_judge_73 : dI prog_1_method_36_code 73 (.getfield 154) 3 76 := by decide +kernel
theorem d_S_judge_76 : dI prog_1_method_36_code 76 (.iload_n 3) 1 77 := by decide +kernel
theorem d_S_judge_77 : dI prog_1_method_36_code 77 .iaload 1 78 := by decide +kernel
theorem d_S_judge_78 : dI prog_1_method_36_code 78 (.invokevirtual 119) 3 81 := by decide +kernel
theorem d_S_judge_81 : dJ prog_1_method_36_code 81 (.ifCond .eq 7) 7 84 88 := by decide +kernel
theorem d_S_judge_84 : dI prog_1_method_36_code 84 (.iconst 1) 1 85 ∧ Int32.ofInt 1 = 1 := by decide +kernel
theorem d_S_judge_85 : dJ prog_1_method_36_code 85 (.goto 4) 4 88 89 := by decide +kernel
theorem d_S_judge_88 : dI prog_1_method_36_code 88 (.iconst 0) 1 89 ∧ Int32.ofInt 0 = 0 := by decide +kernel
theorem d_S_judge_89 : dI prog_1_method_36_code 89 (.istore 4) 2 91 := by decide +kernel
theorem d_S_judge_91 : dI prog_1_method_36_code 91 (.iload 4) 2 93 := by decide +kernel
theorem d_S_judge_93 : dJ prog_1_method_36_code 93 (.ifCond .eq 21) 21 96 114 := by decide +kernel
theorem d_S_judge_96 : dI prog_1_method_36_code 96 (.aload_n 0) 1 97 := by decide +kernel
theorem d_S_judge_97 : dI prog_1_method_36_code 97 (.getfield 36) 3 100 := by decide +kernel
theorem d_S_judge_100 : dI prog_1_method_36_code 100 (.getfield 71) 3 103 := by decide +kernel
theorem d_S_judge_103 : dI prog_1_method_36_code 103 (.iconst 0) 1 104 ∧ Int32.ofInt 0 = 0 := by decide +kernel
theorem d_S_judge_104 : dI prog_1_method_36_code 104 .iaload 1 105 := by decide +kernel
theorem d_S_judge_105 : dI prog_1_method_36_code 105 (.aload_n 2) 1 106 := by decide +kernel
theorem d_S_judge_106 : dI prog_1_method_36_code 106 (.getfield 213) 3 109 := by decide +kernel
theorem d_S_judge_109 : dI prog_1_method_36_code 109 (.iload_n 3) 1 110 := by decide +kernel
theorem d_S_judge_110 : dI prog_1_method_36_code 110 .iaload 1 111 := by decide +kernel
theorem d_S_judge_111 : dJ prog_1_method_36_code 111 (.if_icmp .eq 7) 7 114 118 := by decide +kernel
theorem d_S_judge_114 : dI prog_1_method_36_code 114 (.iconst 1) 1 115 ∧ Int32.ofInt 1 = 1 := by decide +kernel
theorem d_S_judge_115 : dI prog_1_method_36_code 115 (.iload_n 3) 1 116 := by decide +kernel
theorem d_S_judge_116 : dI prog_1_method_36_code 116 .iadd 1 117 := by decide +kernel
theorem d_S_judge_117 : decode prog_1_method_36_code 117 = .ok (.ireturn, 1) := by decide +kernel
theorem d_S_judge_118 : dI prog_1_method_36_code 118 (.iinc 3 1) 3 121 ∧ Int32.ofInt 1 = 1 := by decide +kernel
theorem d_S_judge_121 : dJ prog_1_method_36_code 121 (.goto (-75)) (-75) 124 46 := by decide +kernel
theorem d_S_judge_124 : dI prog_1_method_36_code 124 (.iconst 0) 1 125 ∧ Int32.ofInt 0 = 0 := by decide +kernel
theorem d_S_judge_125 : decode prog_1_method_36_code 125 = .ok (.ireturn, 1) := by decide +kernel
theorem d_S_image_0 : dI prog_1_method_37_code 0 (.aload_n 0) 1 1 := by decide +kernel
theorem d_S_image_1 : dI prog_1_method_37_code 1 (.getfield 16) 3 4 := by decide +kernel
theorem d_S_image_4 : dI prog_1_method_37_code 4 (.aload_n 0) 1 5 := by decide +kernel
theorem d_S_image_5 : dI prog_1_method_37_code 5 (.getfield 10) 3 8 := by decide +kernel
theorem d_S_image_8 : dI prog_1_method_37_code 8 (.invokevirtual 144) 3 11 := by decide +kernel
theorem d_S_image_11 : dI prog_1_method_37_code 11 (.aload_n 0) 1 12 := by decide +kernel
theorem d_S_image_12 : dI prog_1_method_37_code 12 (.iconst 1) 1 13 ∧ Int32.ofInt 1 = 1 := by decide +kernel
theorem d_S_image_13 : dI prog_1_method_37_code 13 (.putfield 233) 3 16 := by decide +kernel
theorem d_S_image_16 : dI prog_1_method_37_code 16 (.iconst 1) 1 17 ∧ Int32.ofInt 1 = 1 := by decide +kernel
theorem d_S_image_17 : decode prog_1_method_37_code 17 = .ok (.ireturn, 1) := by decide +kernel
theorem d_S_undo_0 : dI prog_1_method_38_code 0 (.aload_n 0) 1 1 := by decide +kernel
theorem d_S_undo_1 : dI prog_1_method_38_code 1 (.getfield 233) 3 4 := by decide +kernel
theorem d_S_undo_4 : dJ prog_1_method_38_code 4 (.ifCond .ne 9) 9 7 13 := by decide +kernel
theorem d_S_undo_7 : dI prog_1_method_38_code 7 (.aload_n 0) 1 8 := by decide +kernel
theorem d_S_undo_8 : dI prog_1_method_38_code 8 (.iconst 3) 1 9 ∧ Int32.ofInt 3 = 3 := by decide +kernel
theorem d_S_undo_9 : dI prog_1_method_38_code 9 (.invokevirtual 67) 3 12 := by decide +kernel
theorem d_S_undo_12 : decode prog_1_method_38_code 12 = .ok (.ireturn, 1) := by decide +kernel
theorem d_S_undo_13 : dI prog_1_method_38_code 13 (.aload_n 0) 1 14 := by decide +kernel
theorem d_S_undo_14 : dI prog_1_method_38_code 14 (.getfield 10) 3 17 := by decide +kernel
theorem d_S_undo_17 : dI prog_1_method_38_code 17 (.aload_n 0) 1 18 := by decide +kernel
theorem d_S_undo_18 : dI prog_1_method_38_code 18 (.getfield 16) 3 21 := by decide +kernel
theorem d_S_undo_21 : dI prog_1_method_38_code 21 (.invokevirtual 144) 3 24 := by decide +kernel
theorem d_S_undo_24 : dI prog_1_method_38_code 24 (.aload_n 0) 1 25 := by decide +kernel
theorem d_S_undo_25 : dI prog_1_method_38_code 25 (.getfield 26) 3 28 := by decide +kernel
theorem d_S_undo_28 : dI prog_1_method_38_code 28 (.getfield 71) 3 31 := by decide +kernel
theorem d_S_undo_31 : dI prog_1_method_38_code 31 (.bipush 7) 2 33 ∧ (Int8.ofInt 7).toInt32 = 7 := by decide +kernel
theorem d_S_undo_33 : dI prog_1_method_38_code 33 .iaload 1 34 := by decide +kernel
theorem d_S_undo_34 : decode prog_1_method_38_code 34 = .ok (.ireturn, 1) := by decide +kernel
theorem d_S_tear_0 : dI prog_1_method_39_code 0 (.aload_n 0) 1 1 := by decide +kernel
theorem d_S_tear_1 : dI prog_1_method_39_code 1 (.getfield 233) 3 4 := by decide +kernel
theorem d_S_tear_4 : dJ prog_1_method_39_code 4 (.ifCond .eq 7) 7 7 11 := by decide +kernel
theorem d_S_tear_7 : dI prog_1_method_39_code 7 (.iconst 1) 1 8 ∧ Int32.ofInt 1 = 1 := by decide +kernel
theorem d_S_tear_8 : dJ prog_1_method_39_code 8 (.goto 4) 4 11 12 := by decide +kernel
theorem d_S_tear_11 : dI prog_1_method_39_code 11 (.iconst 0) 1 12 ∧ Int32.ofInt 0 = 0 := by decide +kernel
theorem d_S_tear_12 : dI prog_1_method_39_code 12 (.istore_n 1) 1 13 := by decide +kernel
theorem d_S_tear_13 : dI prog_1_method_39_code 13 (.aload_n 0) 1 14 := by decide +kernel
theorem d_S_tear_14 : dI prog_1_method_39_code 14 (.iconst 0) 1 15 ∧ Int32.ofInt 0 = 0 := by decide +kernel
theorem d_S_tear_15 : dI prog_1_method_39_code 15 (.putfield 233) 3 18 := by decide +kernel
theorem d_S_tear_18 : dI prog_1_method_39_code 18 (.iload_n 1) 1 19 := by decide +kernel
theorem d_S_tear_19 : decode prog_1_method_39_code 19 = .ok (.ireturn, 1) := by decide +kernel
theorem d_S_count_0 : dI prog_1_method_40_code 0 (.iload_n 1) 1 1 := by decide +kernel
theorem d_S_count_1 : decode prog_1_method_40_code 1 = .ok (.tableswitch 93 0 5 #[39, 47, 58, 69, 77, 85], 39) := by decide +kernel
theorem d_S_count_40 : dI prog_1_method_40_code 40 (.aload_n 0) 1 41 := by decide +kernel
theorem d_S_count_41 : dI prog_1_method_40_code 41 (.getfield 10) 3 44 := by decide +kernel
theorem d_S_count_44 : dI prog_1_method_40_code 44 (.getfield 151) 3 47 := by decide +kernel
theorem d_S_count_47 : decode prog_1_method_40_code 47 = .ok (.ireturn, 1) := by decide +kernel
theorem d_S_count_48 : dI prog_1_method_40_code 48 (.aload_n 0) 1 49 := by decide +kernel
theorem d_S_count_49 : dI prog_1_method_40_code 49 (.getfield 10) 3 52 := by decide +kernel
theorem d_S_count_52 : dI prog_1_method_40_code 52 (.getfield 107) 3 55 := by decide +kernel
theorem d_S_count_55 : dI prog_1_method_40_code 55 (.invokestatic 236) 3 58 := by decide +kernel
theorem d_S_count_58 : decode prog_1_method_40_code 58 = .ok (.ireturn, 1) := by decide +kernel
theorem d_S_count_59 : dI prog_1_method_40_code 59 (.aload_n 0) 1 60 := by decide +kernel
theorem d_S_count_60 : dI prog_1_method_40_code 60 (.getfield 10) 3 63 := by decide +kernel
theorem d_S_count_63 : dI prog_1_method_40_code 63 (.getfield 190) 3 66 := by decide +kernel
theorem d_S_count_66 : dI prog_1_method_40_code 66 (.invokestatic 236) 3 69 := by decide +kernel
theorem d_S_count_69 : decode prog_1_method_40_code 69 = .ok (.ireturn, 1) := by decide +kernel
theorem d_S_count_70 : dI prog_1_method_40_code 70 (.aload_n 0) 1 71 := by decide +kernel
theorem d_S_count_71 : dI prog_1_method_40_code 71 (.getfield 49) 3 74 := by decide +kernel
theorem d_S_count_74 : dI prog_1_method_40_code 74 (.getfield 137) 3 77 := by decide +kernel
theorem d_S_count_77 : decode prog_1_method_40_code 77 = .ok (.ireturn, 1) := by decide +kernel
theorem d_S_count_78 : dI prog_1_method_40_code 78 (.aload_n 0) 1 79 := by decide +kernel
theorem d_S_count_79 : dI prog_1_method_40_code 79 (.getfield 10) 3 82 := by decide +kernel
theorem d_S_count_82 : dI prog_1_method_40_code 82 (.getfield 184) 3 85 := by decide +kernel
theorem d_S_count_85 : decode prog_1_method_40_code 85 = .ok (.ireturn, 1) := by decide +kernel
theorem d_S_count_86 : dI prog_1_method_40_code 86 (.aload_n 0) 1 87 := by decide +kernel
theorem d_S_count_87 : dI prog_1_method_40_code 87 (.getfield 10) 3 90 := by decide +kernel
theorem d_S_count_90 : dI prog_1_method_40_code 90 (.invokevirtual 101) 3 93 := by decide +kernel
theorem d_S_count_93 : decode prog_1_method_40_code 93 = .ok (.ireturn, 1) := by decide +kernel
theorem d_S_count_94 : dI prog_1_method_40_code 94 (.aload_n 0) 1 95 := by decide +kernel
theorem d_S_count_95 : dI prog_1_method_40_code 95 (.iconst 0) 1 96 ∧ Int32.ofInt 0 = 0 := by decide +kernel
theorem d_S_count_96 : dI prog_1_method_40_code 96 (.invokevirtual 67) 3 99 := by decide +kernel
theorem d_S_count_99 : decode prog_1_method_40_code 99 = .ok (.ireturn, 1) := by decide +kernel
theorem d_S_status_0 : dI prog_1_method_41_code 0 (.iload_n 1) 1 1 := by decide +kernel
theorem d_S_status_1 : dI prog_1_method_41_code 1 (.iconst (-1)) 1 2 ∧ Int32.ofInt (-1) = (-1) := by decide +kernel
theorem d_S_status_2 : dJ prog_1_method_41_code 2 (.if_icmp .lt 9) 9 5 11 := by decide +kernel
theorem d_S_status_5 : dI prog_1_method_41_code 5 (.iload_n 1) 1 6 := by decide +kernel
theorem d_S_status_6 : dI prog_1_method_41_code 6 (.bipush 7) 2 8 ∧ (Int8.ofInt 7).toInt32 = 7 := by decide +kernel
theorem d_S_status_8 : dJ prog_1_method_41_code 8 (.if_icmp .lt 9) 9 11 17 := by decide +kernel
theorem d_S_status_11 : dI prog_1_method_41_code 11 (.aload_n 0) 1 12 := by decide +kernel
theorem d_S_status_12 : dI prog_1_method_41_code 12 (.iconst 0) 1 13 ∧ Int32.ofInt 0 = 0 := by decide +kernel
theorem d_S_status_13 : dI prog_1_method_41_code 13 (.invokevirtual 67) 3 16 := by decide +kernel
theorem d_S_status_16 : decode prog_1_method_41_code 16 = .ok (.ireturn, 1) := by decide +kernel
theorem d_S_status_17 : dI prog_1_method_41_code 17 (.iload_n 1) 1 18 := by decide +kernel
theorem d_S_status_18 : dJ prog_1_method_41_code 18 (.ifCond .lt 10) 10 21 28 := by decide +kernel
theorem d_S_status_21 : dI prog_1_method_41_code 21 (.aload_n 0) 1 22 := by decide +kernel
theorem d_S_status_22 : dI prog_1_method_41_code 22 (.getfield 60) 3 25 := by decide +kernel
theorem d_S_status_25 : dI prog_1_method_41_code 25 (.iload_n 1) 1 26 := by decide +kernel
theorem d_S_status_26 : dI prog_1_method_41_code 26 .iaload 1 27 := by decide +kernel
theorem d_S_status_27 : decode prog_1_method_41_code 27 = .ok (.ireturn, 1) := by decide +kernel
theorem d_S_status_28 : dI prog_1_method_41_code 28 (.iconst 0) 1 29 ∧ Int32.ofInt 0 = 0 := by decide +kernel
theorem d_S_status_29 : dI prog_1_method_41_code 29 (.istore_n 2) 1 30 := by decide +kernel
theorem d_S_status_30 : dI prog_1_method_41_code 30 (.iconst 0) 1 31 ∧ Int32.ofInt 0 = 0 := by decide +kernel
theorem d_S_status_31 : dI prog_1_method_41_code 31 (.istore_n 3) 1 32 := by decide +kernel
theorem d_S_status_32 : dI prog_1_method_41_code 32 (.iload_n 3) 1 33 := by decide +kernel
theorem d_S_status_33 : dI prog_1_method_41_code 33 (.bipush 7) 2 35 ∧ (Int8.ofInt 7).toInt32 = 7 := by decide +kernel
theorem d_S_status_35 : dJ prog_1_method_41_code 35 (.if_icmp .ge 18) 18 38 53 := by decide +kernel
theorem d_S_status_38 : dI prog_1_method_41_code 38 (.iload_n 2) 1 39 := by decide +kernel
theorem d_S_status_39 : dI prog_1_method_41_code 39 (.aload_n 0) 1 40 := by decide +kernel
theorem d_S_status_40 : dI prog_1_method_41_code 40 (.getfield 60) 3 43 := by decide +kernel
theorem d_S_status_43 : dI prog_1_method_41_code 43 (.iload_n 3) 1 44 := by decide +kernel
theorem d_S_status_44 : dI prog_1_method_41_code 44 .iaload 1 45 := by decide +kernel
theorem d_S_status_45 : dI prog_1_method_41_code 45 .iadd 1 46 := by decide +kernel
theorem d_S_status_46 : dI prog_1_method_41_code 46 (.istore_n 2) 1 47 := by decide +kernel
theorem d_S_status_47 : dI prog_1_method_41_code 47 (.iinc 3 1) 3 50 ∧ Int32.ofInt 1 = 1 := by decide +kernel
theorem d_S_status_50 : dJ prog_1_method_41_code 50 (.goto (-18)) (-18) 53 32 := by decide +kernel
theorem d_S_status_53 : dI prog_1_method_41_code 53 (.iload_n 2) 1 54 := by decide +kernel
theorem d_S_status_54 : decode prog_1_method_41_code 54 = .ok (.ireturn, 1) := by decide +kernel
theorem d_S_finding_0 : dI prog_1_method_42_code 0 (.iload_n 1) 1 1 := by decide +kernel
theorem d_S_finding_1 : dJ prog_1_method_42_code 1 (.ifCond .lt 19) 19 4 20 := by decide +kernel
theorem d_S_finding_4 : dI prog_1_method_42_code 4 (.iload_n 1) 1 5 := by decide +kernel
theorem d_S_finding_5 : dI prog_1_method_42_code 5 (.bipush 7) 2 7 ∧ (Int8.ofInt 7).toInt32 = 7 := by decide +kernel
theorem d_S_finding_7 : dJ prog_1_method_42_code 7 (.if_icmp .ge 13) 13 10 20 := by decide +kernel
theorem d_S_finding_10 : dI prog_1_method_42_code 10 (.aload_n 0) 1 11 := by decide +kernel
theorem d_S_finding_11 : dI prog_1_method_42_code 11 (.getfield 60) 3 14 := by decide +kernel
theorem d_S_finding_14 : dI prog_1_method_42_code 14 (.iload_n 1) 1 15 := by decide +kernel
theorem d_S_finding_15 : dI prog_1_method_42_code 15 .dup2 1 16 := by decide +kernel
theorem d_S_finding_16 : dI prog_1_method_42_code 16 .iaload 1 17 := by decide +kernel
theorem d_S_finding_17 : dI prog_1_method_42_code 17 (.iconst 1) 1 18 ∧ Int32.ofInt 1 = 1 := by decide +kernel
theorem d_S_finding_18 : dI prog_1_method_42_code 18 .iadd 1 19 := by decide +kernel
theorem d_S_finding_19 : dI prog_1_method_42_code 19 .iastore 1 20 := by decide +kernel
theorem d_S_finding_20 : dI prog_1_method_42_code 20 (.ldc 240) 2 22 := by decide +kernel
theorem d_S_finding_22 : dI prog_1_method_42_code 22 (.iload_n 1) 1 23 := by decide +kernel
theorem d_S_finding_23 : dI prog_1_method_42_code 23 .isub 1 24 := by decide +kernel
theorem d_S_finding_24 : decode prog_1_method_42_code 24 = .ok (.ireturn, 1) := by decide +kernel
theorem d_S_timesTillOut_0 : dI prog_1_method_43_code 0 (.aload_n 0) 1 1 := by decide +kernel
theorem d_S_timesTillOut_1 : dI prog_1_method_43_code 1 (.getfield 36) 3 4 := by decide +kernel
theorem d_S_timesTillOut_4 : dI prog_1_method_43_code 4 (.aload_n 0) 1 5 := by decide +kernel
theorem d_S_timesTillOut_5 : dI prog_1_method_43_code 5 (.getfield 26) 3 8 := by decide +kernel
theorem d_S_timesTillOut_8 : dI prog_1_method_43_code 8 (.invokevirtual 122) 3 11 := by decide +kernel
theorem d_S_timesTillOut_11 : dI prog_1_method_43_code 11 (.iconst 0) 1 12 ∧ Int32.ofInt 0 = 0 := by decide +kernel
theorem d_S_timesTillOut_12 : dI prog_1_method_43_code 12 (.istore_n 3) 1 13 := by decide +kernel
theorem d_S_timesTillOut_13 : dI prog_1_method_43_code 13 (.iload_n 3) 1 14 := by decide +kernel
theorem d_S_timesTillOut_14 : dI prog_1_method_43_code 14 (.iload_n 2) 1 15 := by decide +kernel
theorem d_S_timesTillOut_15 : dJ prog_1_method_43_code 15 (.if_icmp .ge 20) 20 18 35 := by decide +kernel
theorem d_S_timesTillOut_18 : dI prog_1_method_43_code 18 (.aload_n 0) 1 19 := by decide +kernel
theorem d_S_timesTillOut_19 : dI prog_1_method_43_code 19 (.getfield 36) 3 22 := by decide +kernel
theorem d_S_timesTillOut_22 : dI prog_1_method_43_code 22 (.iload_n 1) 1 23 := by decide +kernel
theorem d_S_timesTillOut_23 : dI prog_1_method_43_code 23 (.invokevirtual 119) 3 26 := by decide +kernel
theorem d_S_timesTillOut_26 : dJ prog_1_method_43_code 26 (.ifCond .eq 9) 9 29 35 := by decide +kernel
theorem d_S_timesTillOut_29 : dI prog_1_method_43_code 29 (.iinc 3 1) 3 32 ∧ Int32.ofInt 1 = 1 := by decide +kernel
theorem d_S_timesTillOut_32 : dJ prog_1_method_43_code 32 (.goto (-19)) (-19) 35 13 := by decide +kernel
theorem d_S_timesTillOut_35 : dI prog_1_method_43_code 35 (.aload_n 0) 1 36 := by decide +kernel
theorem d_S_timesTillOut_36 : dI prog_1_method_43_code 36 (.getfield 36) 3 39 := by decide +kernel
theorem d_S_timesTillOut_39 : dI prog_1_method_43_code 39 (.invokevirtual 94) 3 42 := by decide +kernel
theorem d_S_timesTillOut_42 : dJ prog_1_method_43_code 42 (.ifCond .eq 7) 7 45 49 := by decide +kernel
theorem d_S_timesTillOut_45 : dI prog_1_method_43_code 45 (.iload_n 3) 1 46 := by decide +kernel
theorem d_S_timesTillOut_46 : dJ prog_1_method_43_code 46 (.goto 4) 4 49 50 := by decide +kernel
theorem d_S_timesTillOut_49 : dI prog_1_method_43_code 49 (.iconst (-1)) 1 50 ∧ Int32.ofInt (-1) = (-1) := by decide +kernel
theorem d_S_timesTillOut_50 : decode prog_1_method_43_code 50 = .ok (.ireturn, 1) := by decide +kernel
theorem d_S_filledOf_0 : dI prog_1_method_44_code 0 (.iconst 0) 1 1 ∧ Int32.ofInt 0 = 0 := by decide +kernel
theorem d_S_filledOf_1 : dI prog_1_method_44_code 1 (.istore_n 1) 1 2 := by decide +kernel
theorem d_S_filledOf_2 : dI prog_1_method_44_code 2 (.iconst 0) 1 3 ∧ Int32.ofInt 0 = 0 := by decide +kernel
theorem d_S_filledOf_3 : dI prog_1_method_44_code 3 (.istore_n 2) 1 4 := by decide +kernel
theorem d_S_filledOf_4 : dI prog_1_method_44_code 4 (.iload_n 2) 1 5 := by decide +kernel
theorem d_S_filledOf_5 : dI prog_1_method_44_code 5 (.aload_n 0) 1 6 := by decide +kernel
theorem d_S_filledOf_6 : dI prog_1_method_44_code 6 .arraylength 1 7 := by decide +kernel
theorem d_S_filledOf_7 : dJ prog_1_method_44_code 7 (.if_icmp .ge 19) 19 10 26 := by decide +kernel
theorem d_S_filledOf_10 : dI prog_1_method_44_code 10 (.aload_n 0) 1 11 := by decide +kernel
theorem d_S_filledOf_11 : dI prog_1_method_44_code 11 (.iload_n 2) 1 12 := by decide +kernel
theorem d_S_filledOf_12 : dI prog_1_method_44_code 12 .iaload 1 13 := by decide +kernel
theorem d_S_filledOf_13 : dI prog_1_method_44_code 13 (.iconst (-1)) 1 14 ∧ Int32.ofInt (-1) = (-1) := by decide +kernel
theorem d_S_filledOf_14 : dJ prog_1_method_44_code 14 (.if_icmp .eq 6) 6 17 20 := by decide +kernel
theorem d_S_filledOf_17 : dI prog_1_method_44_code 17 (.iinc 1 1) 3 20 ∧ Int32.ofInt 1 = 1 := by decide +kernel
theorem d_S_filledOf_20 : dI prog_1_method_44_code 20 (.iinc 2 1) 3 23 ∧ Int32.ofInt 1 = 1 := by decide +kernel
theorem d_S_filledOf_23 : dJ prog_1_method_44_code 23 (.goto (-19)) (-19) 26 4 := by decide +kernel
theorem d_S_filledOf_26 : dI prog_1_method_44_code 26 (.iload_n 1) 1 27 := by decide +kernel
theorem d_S_filledOf_27 : decode prog_1_method_44_code 27 = .ok (.ireturn, 1) := by decide +kernel
theorem d_S_isYard_0 : dI prog_1_method_45_code 0 (.iload_n 0) 1 1 := by decide +kernel
theorem d_S_isYard_1 : dJ prog_1_method_45_code 1 (.ifCond .lt 13) 13 4 14 := by decide +kernel
theorem d_S_isYard_4 : dI prog_1_method_45_code 4 (.iload_n 0) 1 5 := by decide +kernel
theorem d_S_isYard_5 : dI prog_1_method_45_code 5 (.bipush 40) 2 7 ∧ (Int8.ofInt 40).toInt32 = 40 := by decide +kernel
theorem d_S_isYard_7 : dJ prog_1_method_45_code 7 (.if_icmp .ge 7) 7 10 14 := by decide +kernel
theorem d_S_isYard_10 : dI prog_1_method_45_code 10 (.iconst 1) 1 11 ∧ Int32.ofInt 1 = 1 := by decide +kernel
theorem d_S_isYard_11 : dJ prog_1_method_45_code 11 (.goto 4) 4 14 15 := by decide +kernel
theorem d_S_isYard_14 : dI prog_1_method_45_code 14 (.iconst 0) 1 15 ∧ Int32.ofInt 0 = 0 := by decide +kernel
theorem d_S_isYard_15 : decode prog_1_method_45_code 15 = .ok (.ireturn, 1) := by decide +kernel
theorem d_S_isSlot_0 : dI prog_1_method_46_code 0 (.iload_n 0) 1 1 := by decide +kernel
theorem d_S_isSlot_1 : dJ prog_1_method_46_code 1 (.ifCond .lt 13) 13 4 14 := by decide +kernel
theorem d_S_isSlot_4 : dI prog_1_method_46_code 4 (.iload_n 0) 1 5 := by decide +kernel
theorem d_S_isSlot_5 : dI prog_1_method_46_code 5 (.bipush 10) 2 7 ∧ (Int8.ofInt 10).toInt32 = 10 := by decide +kernel
theorem d_S_isSlot_7 : dJ prog_1_method_46_code 7 (.if_icmp .ge 7) 7 10 14 := by decide +kernel
theorem d_S_isSlot_10 : dI prog_1_method_46_code 10 (.iconst 1) 1 11 ∧ Int32.ofInt 1 = 1 := by decide +kernel
theorem d_S_isSlot_11 : dJ prog_1_method_46_code 11 (.goto 4) 4 14 15 := by decide +kernel
theorem d_S_isSlot_14 : dI prog_1_method_46_code 14 (.iconst 0) 1 15 ∧ Int32.ofInt 0 = 0 := by decide +kernel
theorem d_S_isSlot_15 : decode prog_1_method_46_code 15 = .ok (.ireturn, 1) := by decide +kernel
theorem d_S_isSpot_0 : dI prog_1_method_47_code 0 (.iload_n 0) 1 1 := by decide +kernel
theorem d_S_isSpot_1 : dJ prog_1_method_47_code 1 (.ifCond .lt 13) 13 4 14 := by decide +kernel
theorem d_S_isSpot_4 : dI prog_1_method_47_code 4 (.iload_n 0) 1 5 := by decide +kernel
theorem d_S_isSpot_5 : dI prog_1_method_47_code 5 (.bipush 10) 2 7 ∧ (Int8.ofInt 10).toInt32 = 10 := by decide +kernel
theorem d_S_isSpot_7 : dJ prog_1_method_47_code 7 (.if_icmp .ge 7) 7 10 14 := by decide +kernel
theorem d_S_isSpot_10 : dI prog_1_method_47_code 10 (.iconst 1) 1 11 ∧ Int32.ofInt 1 = 1 := by decide +kernel
theorem d_S_isSpot_11 : dJ prog_1_method_47_code 11 (.goto 4) 4 14 15 := by decide +kernel
theorem d_S_isSpot_14 : dI prog_1_method_47_code 14 (.iconst 0) 1 15 ∧ Int32.ofInt 0 = 0 := by decide +kernel
theorem d_S_isSpot_15 : decode prog_1_method_47_code 15 = .ok (.ireturn, 1) := by decide +kernel
theorem d_S_isSheet_0 : dI prog_1_method_48_code 0 (.iload_n 0) 1 1 := by decide +kernel
theorem d_S_isSheet_1 : dJ prog_1_method_48_code 1 (.ifCond .lt 12) 12 4 13 := by decide +kernel
theorem d_S_isSheet_4 : dI prog_1_method_48_code 4 (.iload_n 0) 1 5 := by decide +kernel
theorem d_S_isSheet_5 : dI prog_1_method_48_code 5 (.iconst 4) 1 6 ∧ Int32.ofInt 4 = 4 := by decide +kernel
theorem d_S_isSheet_6 : dJ prog_1_method_48_code 6 (.if_icmp .ge 7) 7 9 13 := by decide +kernel
theorem d_S_isSheet_9 : dI prog_1_method_48_code 9 (.iconst 1) 1 10 ∧ Int32.ofInt 1 = 1 := by decide +kernel
theorem d_S_isSheet_10 : dJ prog_1_method_48_code 10 (.goto 4) 4 13 14 := by decide +kernel
theorem d_S_isSheet_13 : dI prog_1_method_48_code 13 (.iconst 0) 1 14 ∧ Int32.ofInt 0 = 0 := by decide +kernel
theorem d_S_isSheet_14 : decode prog_1_method_48_code 14 = .ok (.ireturn, 1) := by decide +kernel
theorem d_S_leastOf_0 : dI prog_1_method_49_code 0 (.iload_n 0) 1 1 := by decide +kernel
theorem d_S_leastOf_1 : dI prog_1_method_49_code 1 (.iconst 5) 1 2 ∧ Int32.ofInt 5 = 5 := by decide +kernel
theorem d_S_leastOf_2 : dJ prog_1_method_49_code 2 (.if_icmp .ne 7) 7 5 9 := by decide +kernel
theorem d_S_leastOf_5 : dI prog_1_method_49_code 5 (.iconst 1) 1 6 ∧ Int32.ofInt 1 = 1 := by decide +kernel
theorem d_S_leastOf_6 : dJ prog_1_method_49_code 6 (.goto 4) 4 9 10 := by decide +kernel
theorem d_S_leastOf_9 : dI prog_1_method_49_code 9 (.iconst 0) 1 10 ∧ Int32.ofInt 0 = 0 := by decide +kernel
theorem d_S_leastOf_10 : decode prog_1_method_49_code 10 = .ok (.ireturn, 1) := by decide +kernel
theorem d_S_mostOf_0 : dI prog_1_method_50_code 0 (.iload_n 0) 1 1 := by decide +kernel
theorem d_S_mostOf_1 : decode prog_1_method_50_code 1 = .ok (.tableswitch 57 0 5 #[39, 42, 45, 48, 51, 54], 39) := by decide +kernel
theorem d_S_mostOf_40 : dI prog_1_method_50_code 40 (.bipush 39) 2 42 ∧ (Int8.ofInt 39).toInt32 = 39 := by decide +kernel
theorem d_S_mostOf_42 : decode prog_1_method_50_code 42 = .ok (.ireturn, 1) := by decide +kernel
theorem d_S_mostOf_43 : dI prog_1_method_50_code 43 (.bipush 99) 2 45 ∧ (Int8.ofInt 99).toInt32 = 99 := by decide +kernel
theorem d_S_mostOf_45 : decode prog_1_method_50_code 45 = .ok (.ireturn, 1) := by decide +kernel
theorem d_S_mostOf_46 : dI prog_1_method_50_code 46 (.bipush 99) 2 48 ∧ (Int8.ofInt 99).toInt32 = 99 := by decide +kernel
theorem d_S_mostOf_48 : decode prog_1_method_50_code 48 = .ok (.ireturn, 1) := by decide +kernel
theorem d_S_mostOf_49 : dI prog_1_method_50_code 49 (.bipush 9) 2 51 ∧ (Int8.ofInt 9).toInt32 = 9 := by decide +kernel
theorem d_S_mostOf_51 : decode prog_1_method_50_code 51 = .ok (.ireturn, 1) := by decide +kernel
theorem d_S_mostOf_52 : dI prog_1_method_50_code 52 (.bipush 8) 2 54 ∧ (Int8.ofInt 8).toInt32 = 8 := by decide +kernel
theorem d_S_mostOf_54 : decode prog_1_method_50_code 54 = .ok (.ireturn, 1) := by decide +kernel
theorem d_S_mostOf_55 : dI prog_1_method_50_code 55 (.bipush 8) 2 57 ∧ (Int8.ofInt 8).toInt32 = 8 := by decide +kernel
theorem d_S_mostOf_57 : decode prog_1_method_50_code 57 = .ok (.ireturn, 1) := by decide +kernel
theorem d_S_mostOf_58 : dI prog_1_method_50_code 58 (.sipush 9999) 3 61 ∧ (Int16.ofInt 9999).toInt32 = 9999 := by decide +kernel
theorem d_S_mostOf_61 : decode prog_1_method_50_code 61 = .ok (.ireturn, 1) := by decide +kernel
theorem d_S_weightOf_0 : dI prog_1_method_51_code 0 (.bipush 20) 2 2 ∧ (Int8.ofInt 20).toInt32 = 20 := by decide +kernel
theorem d_S_weightOf_2 : dI prog_1_method_51_code 2 (.iload_n 0) 1 3 := by decide +kernel
theorem d_S_weightOf_3 : dI prog_1_method_51_code 3 (.iconst 2) 1 4 ∧ Int32.ofInt 2 = 2 := by decide +kernel
theorem d_S_weightOf_4 : dI prog_1_method_51_code 4 .idiv 1 5 := by decide +kernel
theorem d_S_weightOf_5 : dI prog_1_method_51_code 5 .iadd 1 6 := by decide +kernel
theorem d_S_weightOf_6 : dI prog_1_method_51_code 6 (.iload_n 1) 1 7 := by decide +kernel
theorem d_S_weightOf_7 : dI prog_1_method_51_code 7 .iadd 1 8 := by decide +kernel
theorem d_S_weightOf_8 : decode prog_1_method_51_code 8 = .ok (.ireturn, 1) := by decide +kernel
theorem d_S_kindAbove_0 : dI prog_1_method_52_code 0 (.iload_n 0) 1 1 := by decide +kernel
theorem d_S_kindAbove_1 : decode prog_1_method_52_code 1 = .ok (.lookupswitch 31 #[(2, 27), (5, 29)], 27) := by decide +kernel
theorem d_S_kindAbove_28 : dI prog_1_method_52_code 28 (.iconst 1) 1 29 ∧ Int32.ofInt 1 = 1 := by decide +kernel
theorem d_S_kindAbove_29 : decode prog_1_method_52_code 29 = .ok (.ireturn, 1) := by decide +kernel
theorem d_S_kindAbove_30 : dI prog_1_method_52_code 30 (.iconst 2) 1 31 ∧ Int32.ofInt 2 = 2 := by decide +kernel
theorem d_S_kindAbove_31 : decode prog_1_method_52_code 31 = .ok (.ireturn, 1) := by decide +kernel
theorem d_S_kindAbove_32 : dI prog_1_method_52_code 32 (.iconst 0) 1 33 ∧ Int32.ofInt 0 = 0 := by decide +kernel
theorem d_S_kindAbove_33 : decode prog_1_method_52_code 33 = .ok (.ireturn, 1) := by decide +kernel
theorem d_S_isOfKind_0 : dI prog_1_method_53_code 0 (.iload_n 0) 1 1 := by decide +kernel
theorem d_S_isOfKind_1 : dI prog_1_method_53_code 1 (.istore_n 2) 1 2 := by decide +kernel
theorem d_S_isOfKind_2 : dI prog_1_method_53_code 2 (.iconst 0) 1 3 ∧ Int32.ofInt 0 = 0 := by decide +kernel
theorem d_S_isOfKind_3 : dI prog_1_method_53_code 3 (.istore_n 3) 1 4 := by decide +kernel
theorem d_S_isOfKind_4 : dI prog_1_method_53_code 4 (.iload_n 3) 1 5 := by decide +kernel
theorem d_S_isOfKind_5 : dI prog_1_method_53_code 5 (.bipush 8) 2 7 ∧ (Int8.ofInt 8).toInt32 = 8 := by decide +kernel
theorem d_S_isOfKind_7 : dJ prog_1_method_53_code 7 (.if_icmp .ge 23) 23 10 30 := by decide +kernel
theorem d_S_isOfKind_10 : dI prog_1_method_53_code 10 (.iload_n 2) 1 11 := by decide +kernel
theorem d_S_isOfKind_11 : dI prog_1_method_53_code 11 (.iload_n 1) 1 12 := by decide +kernel
theorem d_S_isOfKind_12 : dJ prog_1_method_53_code 12 (.if_icmp .eq 18) 18 15 30 := by decide +kernel
theorem d_S_isOfKind_15 : dI prog_1_method_53_code 15 (.iload_n 2) 1 16 := by decide +kernel
theorem d_S_isOfKind_16 : dJ prog_1_method_53_code 16 (.ifCond .eq 14) 14 19 30 := by decide +kernel
theorem d_S_isOfKind_19 : dI prog_1_method_53_code 19 (.iload_n 2) 1 20 := by decide +kernel
theorem d_S_isOfKind_20 : dI prog_1_method_53_code 20 (.invokestatic 241) 3 23 := by decide +kernel
theorem d_S_isOfKind_23 : dI prog_1_method_53_code 23 (.istore_n 2) 1 24 := by decide +kernel
theorem d_S_isOfKind_24 : dI prog_1_method_53_code 24 (.iinc 3 1) 3 27 ∧ Int32.ofInt 1 = 1 := by decide +kernel
theorem d_S_isOfKind_27 : dJ prog_1_method_53_code 27 (.goto (-23)) (-23) 30 4 := by decide +kernel
theorem d_S_isOfKind_30 : dI prog_1_method_53_code 30 (.iload_n 2) 1 31 := by decide +kernel
theorem d_S_isOfKind_31 : dI prog_1_method_53_code 31 (.iload_n 1) 1 32 := by decide +kernel
theorem d_S_isOfKind_32 : dJ prog_1_method_53_code 32 (.if_icmp .ne 7) 7 35 39 := by decide +kernel
theorem d_S_isOfKind_35 : dI prog_1_method_53_code 35 (.iconst 1) 1 36 ∧ Int32.ofInt 1 = 1 := by decide +kernel
theorem d_S_isOfKind_36 : dJ prog_1_method_53_code 36 (.goto 4) 4 39 40 := by decide +kernel
theorem d_S_isOfKind_39 : dI prog_1_method_53_code 39 (.iconst 0) 1 40 ∧ Int32.ofInt 0 = 0 := by decide +kernel
theorem d_S_isOfKind_40 : decode prog_1_method_53_code 40 = .ok (.ireturn, 1) := by decide +kernel
theorem d_S_workOf_0 : dI prog_1_method_54_code 0 (.iload_n 0) 1 1 := by decide +kernel
theorem d_S_workOf_1 : decode prog_1_method_54_code 1 = .ok (.tableswitch 43 1 5 #[35, 37, 41, 43, 39], 35) := by decide +kernel
theorem d_S_workOf_36 : dI prog_1_method_54_code 36 (.iconst 3) 1 37 ∧ Int32.ofInt 3 = 3 := by decide +kernel
theorem d_S_workOf_37 : decode prog_1_method_54_code 37 = .ok (.ireturn, 1) := by decide +kernel
theorem d_S_workOf_38 : dI prog_1_method_54_code 38 (.iconst 3) 1 39 ∧ Int32.ofInt 3 = 3 := by decide +kernel
theorem d_S_workOf_39 : decode prog_1_method_54_code 39 = .ok (.ireturn, 1) := by decide +kernel
theorem d_S_workOf_40 : dI prog_1_method_54_code 40 (.iconst 4) 1 41 ∧ Int32.ofInt 4 = 4 := by decide +kernel
theorem d_S_workOf_41 : decode prog_1_method_54_code 41 = .ok (.ireturn, 1) := by decide +kernel
theorem d_S_workOf_42 : dI prog_1_method_54_code 42 (.iconst 2) 1 43 ∧ Int32.ofInt 2 = 2 := by decide +kernel
theorem d_S_workOf_43 : decode prog_1_method_54_code 43 = .ok (.ireturn, 1) := by decide +kernel
theorem d_S_workOf_44 : dI prog_1_method_54_code 44 (.iconst 0) 1 45 ∧ Int32.ofInt 0 = 0 := by decide +kernel
theorem d_S_workOf_45 : decode prog_1_method_54_code 45 = .ok (.ireturn, 1) := by decide +kernel
end
section
theorem d_M_init_0 : dI prog_8_method_1_code 0 (.aload_n 0) 1 1 := by decide +kernel
theorem d_M_init_1 : dI prog_8_method_1_code 1 (.invokespecial 1) 3 4 := by decide +kernel
theorem d_M_init_4 : dI prog_8_method_1_code 4 (.aload_n 0) 1 5 := by decide +kernel
theorem d_M_init_5 : dI prog_8_method_1_code 5 (.bipush 92) 2 7 ∧ (Int8.ofInt 92).toInt32 = 92 := by decide +kernel
theorem d_M_init_7 : dI prog_8_method_1_code 7 (.newarray .int) 2 9 := by decide +kernel
theorem d_M_init_9 : dI prog_8_method_1_code 9 (.putfield 7) 3 12 := by decide +kernel
theorem d_M_init_12 : dI prog_8_method_1_code 12 (.aload_n 0) 1 13 := by decide +kernel
theorem d_M_init_13 : dI prog_8_method_1_code 13 (.bipush 92) 2 15 ∧ (Int8.ofInt 92).toInt32 = 92 := by decide +kernel
theorem d_M_init_15 : dI prog_8_method_1_code 15 (.newarray .int) 2 17 := by decide +kernel
theorem d_M_init_17 : dI prog_8_method_1_code 17 (.putfield 13) 3 20 := by decide +kernel
theorem d_M_init_20 : dI prog_8_method_1_code 20 (.aload_n 0) 1 21 := by decide +kernel
theorem d_M_init_21 : dI prog_8_method_1_code 21 (.bipush 92) 2 23 ∧ (Int8.ofInt 92).toInt32 = 92 := by decide +kernel
theorem d_M_init_23 : dI prog_8_method_1_code 23 (.newarray .int) 2 25 := by decide +kernel
theorem d_M_init_25 : dI prog_8_method_1_code 25 (.putfield 16) 3 28 := by decide +kernel
theorem d_M_init_28 : dI prog_8_method_1_code 28 (.aload_n 0) 1 29 := by decide +kernel
theorem d_M_init_29 : dI prog_8_method_1_code 29 (.bipush 7) 2 31 ∧ (Int8.ofInt 7).toInt32 = 7 := by decide +kernel
theorem d_M_init_31 : dI prog_8_method_1_code 31 (.newarray .int) 2 33 := by decide +kernel
theorem d_M_init_33 : dI prog_8_method_1_code 33 (.putfield 19) 3 36 := by decide +kernel
theorem d_M_init_36 : dI prog_8_method_1_code 36 (.aload_n 0) 1 37 := by decide +kernel
theorem d_M_init_37 : dI prog_8_method_1_code 37 (.bipush 120) 2 39 ∧ (Int8.ofInt 120).toInt32 = 120 := by decide +kernel
theorem d_M_init_39 : dI prog_8_method_1_code 39 (.newarray .int) 2 41 := by decide +kernel
theorem d_M_init_41 : dI prog_8_method_1_code 41 (.putfield 22) 3 44 := by decide +kernel
theorem d_M_init_44 : dI prog_8_method_1_code 44 (.aload_n 0) 1 45 := by decide +kernel
theorem d_M_init_45 : dI prog_8_method_1_code 45 (.iconst 3) 1 46 ∧ Int32.ofInt 3 = 3 := by decide +kernel
theorem d_M_init_46 : dI prog_8_method_1_code 46 (.newarray .int) 2 48 := by decide +kernel
theorem d_M_init_48 : dI prog_8_method_1_code 48 (.putfield 25) 3 51 := by decide +kernel
theorem d_M_init_51 : dI prog_8_method_1_code 51 (.aload_n 0) 1 52 := by decide +kernel
theorem d_M_init_52 : dI prog_8_method_1_code 52 (.iconst 4) 1 53 ∧ Int32.ofInt 4 = 4 := by decide +kernel
theorem d_M_init_53 : dI prog_8_method_1_code 53 (.newarray .int) 2 55 := by decide +kernel
theorem d_M_init_55 : dI prog_8_method_1_code 55 (.putfield 28) 3 58 := by decide +kernel
theorem d_M_init_58 : dI prog_8_method_1_code 58 (.aload_n 0) 1 59 := by decide +kernel
theorem d_M_init_59 : dI prog_8_method_1_code 59 (.iconst 4) 1 60 ∧ Int32.ofInt 4 = 4 := by decide +kernel
theorem d_M_init_60 : dI prog_8_method_1_code 60 (.newarray .int) 2 62 := by decide +kernel
theorem d_M_init_62 : dI prog_8_method_1_code 62 (.putfield 31) 3 65 := by decide +kernel
theorem d_M_init_65 : dI prog_8_method_1_code 65 (.aload_n 0) 1 66 := by decide +kernel
theorem d_M_init_66 : dI prog_8_method_1_code 66 (.sipush 160) 3 69 ∧ (Int16.ofInt 160).toInt32 = 160 := by decide +kernel
theorem d_M_init_69 : dI prog_8_method_1_code 69 (.newarray .int) 2 71 := by decide +kernel
theorem d_M_init_71 : dI prog_8_method_1_code 71 (.putfield 34) 3 74 := by decide +kernel
theorem d_M_init_74 : dI prog_8_method_1_code 74 (.aload_n 0) 1 75 := by decide +kernel
theorem d_M_init_75 : dI prog_8_method_1_code 75 (.bipush 40) 2 77 ∧ (Int8.ofInt 40).toInt32 = 40 := by decide +kernel
theorem d_M_init_77 : dI prog_8_method_1_code 77 (.newarray .int) 2 79 := by decide +kernel
theorem d_M_init_79 : dI prog_8_method_1_code 79 (.putfield 37) 3 82 := by decide +kernel
theorem d_M_init_82 : dI prog_8_method_1_code 82 (.aload_n 0) 1 83 := by decide +kernel
theorem d_M_init_83 : dI prog_8_method_1_code 83 (.getfield 7) 3 86 := by decide +kernel
theorem d_M_init_86 : dI prog_8_method_1_code 86 (.iconst 0) 1 87 ∧ Int32.ofInt 0 = 0 := by decide +kernel
theorem d_M_init_87 : dI prog_8_method_1_code 87 (.bipush 20) 2 89 ∧ (Int8.ofInt 20).toInt32 = 20 := by decide +kernel
theorem d_M_init_89 : dI prog_8_method_1_code 89 .iastore 1 90 := by decide +kernel
theorem d_M_init_90 : dI prog_8_method_1_code 90 (.aload_n 0) 1 91 := by decide +kernel
theorem d_M_init_91 : dI prog_8_method_1_code 91 (.getfield 7) 3 94 := by decide +kernel
theorem d_M_init_94 : dI prog_8_method_1_code 94 (.iconst 2) 1 95 ∧ Int32.ofInt 2 = 2 := by decide +kernel
theorem d_M_init_95 : dI prog_8_method_1_code 95 (.bipush 20) 2 97 ∧ (Int8.ofInt 20).toInt32 = 20 := by decide +kernel
theorem d_M_init_97 : dI prog_8_method_1_code 97 .iastore 1 98 := by decide +kernel
theorem d_M_init_98 : dI prog_8_method_1_code 98 (.aload_n 0) 1 99 := by decide +kernel
theorem d_M_init_99 : dI prog_8_method_1_code 99 (.getfield 7) 3 102 := by decide +kernel
theorem d_M_init_102 : dI prog_8_method_1_code 102 (.iconst 4) 1 103 ∧ Int32.ofInt 4 = 4 := by decide +kernel
theorem d_M_init_103 : dI prog_8_method_1_code 103 (.iconst 2) 1 104 ∧ Int32.ofInt 2 = 2 := by decide +kernel
theorem d_M_init_104 : dI prog_8_method_1_code 104 .iastore 1 105 := by decide +kernel
theorem d_M_init_105 : dI prog_8_method_1_code 105 (.aload_n 0) 1 106 := by decide +kernel
theorem d_M_init_106 : dI prog_8_method_1_code 106 (.getfield 7) 3 109 := by decide +kernel
theorem d_M_init_109 : dI prog_8_method_1_code 109 (.iconst 5) 1 110 ∧ Int32.ofInt 5 = 5 := by decide +kernel
theorem d_M_init_110 : dI prog_8_method_1_code 110 (.iconst 4) 1 111 ∧ Int32.ofInt 4 = 4 := by decide +kernel
theorem d_M_init_111 : dI prog_8_method_1_code 111 .iastore 1 112 := by decide +kernel
theorem d_M_init_112 : dI prog_8_method_1_code 112 (.aload_n 0) 1 113 := by decide +kernel
theorem d_M_init_113 : dI prog_8_method_1_code 113 (.getfield 7) 3 116 := by decide +kernel
theorem d_M_init_116 : dI prog_8_method_1_code 116 (.bipush 6) 2 118 ∧ (Int8.ofInt 6).toInt32 = 6 := by decide +kernel
theorem d_M_init_118 : dI prog_8_method_1_code 118 (.sipush 900) 3 121 ∧ (Int16.ofInt 900).toInt32 = 900 := by decide +kernel
theorem d_M_init_121 : dI prog_8_method_1_code 121 .iastore 1 122 := by decide +kernel
theorem d_M_init_122 : dI prog_8_method_1_code 122 (.aload_n 0) 1 123 := by decide +kernel
theorem d_M_init_123 : dI prog_8_method_1_code 123 (.getfield 7) 3 126 := by decide +kernel
theorem d_M_init_126 : dI prog_8_method_1_code 126 (.bipush 10) 2 128 ∧ (Int8.ofInt 10).toInt32 = 10 := by decide +kernel
theorem d_M_init_128 : dI prog_8_method_1_code 128 (.iconst 1) 1 129 ∧ Int32.ofInt 1 = 1 := by decide +kernel
theorem d_M_init_129 : dI prog_8_method_1_code 129 .iastore 1 130 := by decide +kernel
theorem d_M_init_130 : dI prog_8_method_1_code 130 (.iconst 0) 1 131 ∧ Int32.ofInt 0 = 0 := by decide +kernel
theorem d_M_init_131 : dI prog_8_method_1_code 131 (.istore_n 1) 1 132 := by decide +kernel
theorem d_M_init_132 : dI prog_8_method_1_code 132 (.iload_n 1) 1 133 := by decide +kernel
theorem d_M_init_133 : dI prog_8_method_1_code 133 (.bipush 40) 2 135 ∧ (Int8.ofInt 40).toInt32 = 40 := by decide +kernel
theorem d_M_init_135 : dJ prog_8_method_1_code 135 (.if_icmp .ge 20) 20 138 155 := by decide +kernel
theorem d_M_init_138 : dI prog_8_method_1_code 138 (.aload_n 0) 1 139 := by decide +kernel
theorem d_M_init_139 : dI prog_8_method_1_code 139 (.getfield 7) 3 142 := by decide +kernel
theorem d_M_init_142 : dI prog_8_method_1_code 142 (.bipush 12) 2 144 ∧ (Int8.ofInt 12).toInt32 = 12 := by decide +kernel
theorem d_M_init_144 : dI prog_8_method_1_code 144 (.iload_n 1) 1 145 := by decide +kernel
theorem d_M_init_145 : dI prog_8_method_1_code 145 .iadd 1 146 := by decide +kernel
theorem d_M_init_146 : dI prog_8_method_1_code 146 (.bipush 50) 2 148 ∧ (Int8.ofInt 50).toInt32 = 50 := by decide +kernel
theorem d_M_init_148 : dI prog_8_method_1_code 148 .iastore 1 149 := by decide +kernel
theorem d_M_init_149 : dI prog_8_method_1_code 149 (.iinc 1 1) 3 152 ∧ Int32.ofInt 1 = 1 := by decide +kernel
theorem d_M_init_152 : dJ prog_8_method_1_code 152 (.goto (-20)) (-20) 155 132 := by decide +kernel
theorem d_M_init_155 : dI prog_8_method_1_code 155 (.iconst 0) 1 156 ∧ Int32.ofInt 0 = 0 := by decide +kernel
theorem d_M_init_156 : dI prog_8_method_1_code 156 (.istore_n 1) 1 157 := by decide +kernel
theorem d_M_init_157 : dI prog_8_method_1_code 157 (.iload_n 1) 1 158 := by decide +kernel
theorem d_M_init_158 : dI prog_8_method_1_code 158 (.bipush 10) 2 160 ∧ (Int8.ofInt 10).toInt32 = 10 := by decide +kernel
theorem d_M_init_160 : dJ prog_8_method_1_code 160 (.if_icmp .ge 29) 29 163 189 := by decide +kernel
theorem d_M_init_163 : dI prog_8_method_1_code 163 (.aload_n 0) 1 164 := by decide +kernel
theorem d_M_init_164 : dI prog_8_method_1_code 164 (.getfield 7) 3 167 := by decide +kernel
theorem d_M_init_167 : dI prog_8_method_1_code 167 (.bipush 52) 2 169 ∧ (Int8.ofInt 52).toInt32 = 52 := by decide +kernel
theorem d_M_init_169 : dI prog_8_method_1_code 169 (.iload_n 1) 1 170 := by decide +kernel
theorem d_M_init_170 : dI prog_8_method_1_code 170 .iadd 1 171 := by decide +kernel
theorem d_M_init_171 : dI prog_8_method_1_code 171 (.iconst (-1)) 1 172 ∧ Int32.ofInt (-1) = (-1) := by decide +kernel
theorem d_M_init_172 : dI prog_8_method_1_code 172 .iastore 1 173 := by decide +kernel
theorem d_M_init_173 : dI prog_8_method_1_code 173 (.aload_n 0) 1 174 := by decide +kernel
theorem d_M_init_174 : dI prog_8_method_1_code 174 (.getfield 7) 3 177 := by decide +kernel
theorem d_M_init_177 : dI prog_8_method_1_code 177 (.bipush 62) 2 179 ∧ (Int8.ofInt 62).toInt32 = 62 := by decide +kernel
theorem d_M_init_179 : dI prog_8_method_1_code 179 (.iload_n 1) 1 180 := by decide +kernel
theorem d_M_init_180 : dI prog_8_method_1_code 180 .iadd 1 181 := by decide +kernel
theorem d_M_init_181 : dI prog_8_method_1_code 181 (.iconst (-1)) 1 182 ∧ Int32.ofInt (-1) = (-1) := by decide +kernel
theorem d_M_init_182 : dI prog_8_method_1_code 182 .iastore 1 183 := by decide +kernel
theorem d_M_init_183 : dI prog_8_method_1_code 183 (.iinc 1 1) 3 186 ∧ Int32.ofInt 1 = 1 := by decide +kernel
theorem d_M_init_186 : dJ prog_8_method_1_code 186 (.goto (-29)) (-29) 189 157 := by decide +kernel
theorem d_M_init_189 : decode prog_8_method_1_code 189 = .ok (.return_, 1) := by decide +kernel
theorem d_M_finding_0 : dI prog_8_method_2_code 0 (.aload_n 0) 1 1 := by decide +kernel
theorem d_M_finding_1 : dI prog_8_method_2_code 1 (.getfield 19) 3 4 := by decide +kernel
theorem d_M_finding_4 : dI prog_8_method_2_code 4 (.iload_n 1) 1 5 := by decide +kernel
theorem d_M_finding_5 : dI prog_8_method_2_code 5 .dup2 1 6 := by decide +kernel
theorem d_M_finding_6 : dI prog_8_method_2_code 6 .iaload 1 7 := by decide +kernel
theorem d_M_finding_7 : dI prog_8_method_2_code 7 (.iconst 1) 1 8 ∧ Int32.ofInt 1 = 1 := by decide +kernel
theorem d_M_finding_8 : dI prog_8_method_2_code 8 .iadd 1 9 := by decide +kernel
theorem d_M_finding_9 : dI prog_8_method_2_code 9 .iastore 1 10 := by decide +kernel
theorem d_M_finding_10 : dI prog_8_method_2_code 10 (.ldc 40) 2 12 := by decide +kernel
theorem d_M_finding_12 : dI prog_8_method_2_code 12 (.iload_n 1) 1 13 := by decide +kernel
theorem d_M_finding_13 : dI prog_8_method_2_code 13 .isub 1 14 := by decide +kernel
theorem d_M_finding_14 : decode prog_8_method_2_code 14 = .ok (.ireturn, 1) := by decide +kernel
theorem d_M_in_0 : dI prog_8_method_3_code 0 (.iload_n 0) 1 1 := by decide +kernel
theorem d_M_in_1 : dI prog_8_method_3_code 1 (.iload_n 1) 1 2 := by decide +kernel
theorem d_M_in_2 : dJ prog_8_method_3_code 2 (.if_icmp .lt 12) 12 5 14 := by decide +kernel
theorem d_M_in_5 : dI prog_8_method_3_code 5 (.iload_n 0) 1 6 := by decide +kernel
theorem d_M_in_6 : dI prog_8_method_3_code 6 (.iload_n 2) 1 7 := by decide +kernel
theorem d_M_in_7 : dJ prog_8_method_3_code 7 (.if_icmp .gt 7) 7 10 14 := by decide +kernel
theorem d_M_in_10 : dI prog_8_method_3_code 10 (.iconst 1) 1 11 ∧ Int32.ofInt 1 = 1 := by decide +kernel
theorem d_M_in_11 : dJ prog_8_method_3_code 11 (.goto 4) 4 14 15 := by decide +kernel
theorem d_M_in_14 : dI prog_8_method_3_code 14 (.iconst 0) 1 15 ∧ Int32.ofInt 0 = 0 := by decide +kernel
theorem d_M_in_15 : decode prog_8_method_3_code 15 = .ok (.ireturn, 1) := by decide +kernel
theorem d_M_lay_0 : dI prog_8_method_4_code 0 (.iconst 0) 1 1 ∧ Int32.ofInt 0 = 0 := by decide +kernel
theorem d_M_lay_1 : dI prog_8_method_4_code 1 (.istore_n 2) 1 2 := by decide +kernel
theorem d_M_lay_2 : dI prog_8_method_4_code 2 (.iload_n 2) 1 3 := by decide +kernel
theorem d_M_lay_3 : dI prog_8_method_4_code 3 (.bipush 92) 2 5 ∧ (Int8.ofInt 92).toInt32 = 92 := by decide +kernel
theorem d_M_lay_5 : dJ prog_8_method_4_code 5 (.if_icmp .ge 15) 15 8 20 := by decide +kernel
theorem d_M_lay_8 : dI prog_8_method_4_code 8 (.aload_n 1) 1 9 := by decide +kernel
theorem d_M_lay_9 : dI prog_8_method_4_code 9 (.iload_n 2) 1 10 := by decide +kernel
theorem d_M_lay_10 : dI prog_8_method_4_code 10 (.aload_n 0) 1 11 := by decide +kernel
theorem d_M_lay_11 : dI prog_8_method_4_code 11 (.iload_n 2) 1 12 := by decide +kernel
theorem d_M_lay_12 : dI prog_8_method_4_code 12 .iaload 1 13 := by decide +kernel
theorem d_M_lay_13 : dI prog_8_method_4_code 13 .iastore 1 14 := by decide +kernel
theorem d_M_lay_14 : dI prog_8_method_4_code 14 (.iinc 2 1) 3 17 ∧ Int32.ofInt 1 = 1 := by decide +kernel
theorem d_M_lay_17 : dJ prog_8_method_4_code 17 (.goto (-15)) (-15) 20 2 := by decide +kernel
theorem d_M_lay_20 : decode prog_8_method_4_code 20 = .ok (.return_, 1) := by decide +kernel
theorem d_M_begin_0 : dI prog_8_method_5_code 0 (.aload_n 0) 1 1 := by decide +kernel
theorem d_M_begin_1 : dI prog_8_method_5_code 1 (.getfield 7) 3 4 := by decide +kernel
theorem d_M_begin_4 : dI prog_8_method_5_code 4 (.aload_n 0) 1 5 := by decide +kernel
theorem d_M_begin_5 : dI prog_8_method_5_code 5 (.getfield 16) 3 8 := by decide +kernel
theorem d_M_begin_8 : dI prog_8_method_5_code 8 (.invokestatic 41) 3 11 := by decide +kernel
theorem d_M_begin_11 : decode prog_8_method_5_code 11 = .ok (.return_, 1) := by decide +kernel
theorem d_M_layBack_0 : dI prog_8_method_6_code 0 (.aload_n 0) 1 1 := by decide +kernel
theorem d_M_layBack_1 : dI prog_8_method_6_code 1 (.getfield 16) 3 4 := by decide +kernel
theorem d_M_layBack_4 : dI prog_8_method_6_code 4 (.aload_n 0) 1 5 := by decide +kernel
theorem d_M_layBack_5 : dI prog_8_method_6_code 5 (.getfield 7) 3 8 := by decide +kernel
theorem d_M_layBack_8 : dI prog_8_method_6_code 8 (.invokestatic 41) 3 11 := by decide +kernel
theorem d_M_layBack_11 : decode prog_8_method_6_code 11 = .ok (.return_, 1) := by decide +kernel
theorem d_M_isYard_0 : dI prog_8_method_7_code 0 (.iload_n 0) 1 1 := by decide +kernel
theorem d_M_isYard_1 : dI prog_8_method_7_code 1 (.iconst 0) 1 2 ∧ Int32.ofInt 0 = 0 := by decide +kernel
theorem d_M_isYard_2 : dI prog_8_method_7_code 2 (.bipush 39) 2 4 ∧ (Int8.ofInt 39).toInt32 = 39 := by decide +kernel
theorem d_M_isYard_4 : dI prog_8_method_7_code 4 (.invokestatic 45) 3 7 := by decide +kernel
theorem d_M_isYard_7 : decode prog_8_method_7_code 7 = .ok (.ireturn, 1) := by decide +kernel
theorem d_M_isOut_0 : dI prog_8_method_8_code 0 (.aload_n 0) 1 1 := by decide +kernel
theorem d_M_isOut_1 : dI prog_8_method_8_code 1 (.getfield 7) 3 4 := by decide +kernel
theorem d_M_isOut_4 : dI prog_8_method_8_code 4 (.iconst 0) 1 5 ∧ Int32.ofInt 0 = 0 := by decide +kernel
theorem d_M_isOut_5 : dI prog_8_method_8_code 5 .iaload 1 6 := by decide +kernel
theorem d_M_isOut_6 : dI prog_8_method_8_code 6 (.invokestatic 49) 3 9 := by decide +kernel
theorem d_M_isOut_9 : dJ prog_8_method_8_code 9 (.ifCond .ne 7) 7 12 16 := by decide +kernel
theorem d_M_isOut_12 : dI prog_8_method_8_code 12 (.iconst 1) 1 13 ∧ Int32.ofInt 1 = 1 := by decide +kernel
theorem d_M_isOut_13 : dJ prog_8_method_8_code 13 (.goto 4) 4 16 17 := by decide +kernel
theorem d_M_isOut_16 : dI prog_8_method_8_code 16 (.iconst 0) 1 17 ∧ Int32.ofInt 0 = 0 := by decide +kernel
theorem d_M_isOut_17 : decode prog_8_method_8_code 17 = .ok (.ireturn, 1) := by decide +kernel
theorem d_M_hour_0 : dI prog_8_method_9_code 0 (.bipush 14) 2 2 ∧ (Int8.ofInt 14).toInt32 = 14 := by decide +kernel
theorem d_M_hour_2 : dI prog_8_method_9_code 2 (.aload_n 0) 1 3 := by decide +kernel
theorem d_M_hour_3 : dI prog_8_method_9_code 3 (.getfield 7) 3 6 := by decide +kernel
theorem d_M_hour_6 : dI prog_8_method_9_code 6 (.bipush 7) 2 8 ∧ (Int8.ofInt 7).toInt32 = 7 := by decide +kernel
theorem d_M_hour_8 : dI prog_8_method_9_code 8 .iaload 1 9 := by decide +kernel
theorem d_M_hour_9 : dI prog_8_method_9_code 9 (.bipush 60) 2 11 ∧ (Int8.ofInt 60).toInt32 = 60 := by decide +kernel
theorem d_M_hour_11 : dI prog_8_method_9_code 11 .idiv 1 12 := by decide +kernel
theorem d_M_hour_12 : dI prog_8_method_9_code 12 .iadd 1 13 := by decide +kernel
theorem d_M_hour_13 : dI prog_8_method_9_code 13 (.bipush 24) 2 15 ∧ (Int8.ofInt 24).toInt32 = 24 := by decide +kernel
theorem d_M_hour_15 : dI prog_8_method_9_code 15 .irem 1 16 := by decide +kernel
theorem d_M_hour_16 : decode prog_8_method_9_code 16 = .ok (.ireturn, 1) := by decide +kernel
theorem d_M_heat_0 : dI prog_8_method_10_code 0 (.aload_n 0) 1 1 := by decide +kernel
theorem d_M_heat_1 : dI prog_8_method_10_code 1 (.invokevirtual 53) 3 4 := by decide +kernel
theorem d_M_heat_4 : dI prog_8_method_10_code 4 (.istore_n 1) 1 5 := by decide +kernel
theorem d_M_heat_5 : dI prog_8_method_10_code 5 (.iload_n 1) 1 6 := by decide +kernel
theorem d_M_heat_6 : dI prog_8_method_10_code 6 (.bipush 10) 2 8 ∧ (Int8.ofInt 10).toInt32 = 10 := by decide +kernel
theorem d_M_heat_8 : dI prog_8_method_10_code 8 (.bipush 16) 2 10 ∧ (Int8.ofInt 16).toInt32 = 16 := by decide +kernel
theorem d_M_heat_10 : dI prog_8_method_10_code 10 (.invokestatic 45) 3 13 := by decide +kernel
theorem d_M_heat_13 : dJ prog_8_method_10_code 13 (.ifCond .eq 7) 7 16 20 := by decide +kernel
theorem d_M_heat_16 : dI prog_8_method_10_code 16 (.iconst 3) 1 17 ∧ Int32.ofInt 3 = 3 := by decide +kernel
theorem d_M_heat_17 : dJ prog_8_method_10_code 17 (.goto 19) 19 20 36 := by decide +kernel
theorem d_M_heat_20 : dI prog_8_method_10_code 20 (.iload_n 1) 1 21 := by decide +kernel
theorem d_M_heat_21 : dI prog_8_method_10_code 21 (.bipush 20) 2 23 ∧ (Int8.ofInt 20).toInt32 = 20 := by decide +kernel
theorem d_M_heat_23 : dJ prog_8_method_10_code 23 (.if_icmp .ge 8) 8 26 31 := by decide +kernel
theorem d_M_heat_26 : dI prog_8_method_10_code 26 (.iload_n 1) 1 27 := by decide +kernel
theorem d_M_heat_27 : dI prog_8_method_10_code 27 (.iconst 5) 1 28 ∧ Int32.ofInt 5 = 5 := by decide +kernel
theorem d_M_heat_28 : dJ prog_8_method_10_code 28 (.if_icmp .gt 7) 7 31 35 := by decide +kernel
theorem d_M_heat_31 : dI prog_8_method_10_code 31 (.iconst 1) 1 32 ∧ Int32.ofInt 1 = 1 := by decide +kernel
theorem d_M_heat_32 : dJ prog_8_method_10_code 32 (.goto 4) 4 35 36 := by decide +kernel
theorem d_M_heat_35 : dI prog_8_method_10_code 35 (.iconst 2) 1 36 ∧ Int32.ofInt 2 = 2 := by decide +kernel
theorem d_M_heat_36 : decode prog_8_method_10_code 36 = .ok (.ireturn, 1) := by decide +kernel
theorem d_M_gripOf_0 : dI prog_8_method_11_code 0 (.iload_n 1) 1 1 := by decide +kernel
theorem d_M_gripOf_1 : dI prog_8_method_11_code 1 (.iconst 3) 1 2 ∧ Int32.ofInt 3 = 3 := by decide +kernel
theorem d_M_gripOf_2 : dI prog_8_method_11_code 2 (.iload_n 2) 1 3 := by decide +kernel
theorem d_M_gripOf_3 : dI prog_8_method_11_code 3 .imul 1 4 := by decide +kernel
theorem d_M_gripOf_4 : dI prog_8_method_11_code 4 .iadd 1 5 := by decide +kernel
theorem d_M_gripOf_5 : dI prog_8_method_11_code 5 (.aload_n 0) 1 6 := by decide +kernel
theorem d_M_gripOf_6 : dI prog_8_method_11_code 6 (.invokevirtual 53) 3 9 := by decide +kernel
theorem d_M_gripOf_9 : dI prog_8_method_11_code 9 (.iconst 4) 1 10 ∧ Int32.ofInt 4 = 4 := by decide +kernel
theorem d_M_gripOf_10 : dI prog_8_method_11_code 10 (.bipush 7) 2 12 ∧ (Int8.ofInt 7).toInt32 = 7 := by decide +kernel
theorem d_M_gripOf_12 : dI prog_8_method_11_code 12 (.invokestatic 45) 3 15 := by decide +kernel
theorem d_M_gripOf_15 : dJ prog_8_method_11_code 15 (.ifCond .eq 8) 8 18 23 := by decide +kernel
theorem d_M_gripOf_18 : dI prog_8_method_11_code 18 (.bipush 20) 2 20 ∧ (Int8.ofInt 20).toInt32 = 20 := by decide +kernel
theorem d_M_gripOf_20 : dJ prog_8_method_11_code 20 (.goto 4) 4 23 24 := by decide +kernel
theorem d_M_gripOf_23 : dI prog_8_method_11_code 23 (.iconst 0) 1 24 ∧ Int32.ofInt 0 = 0 := by decide +kernel
theorem d_M_gripOf_24 : dI prog_8_method_11_code 24 .iadd 1 25 := by decide +kernel
theorem d_M_gripOf_25 : decode prog_8_method_11_code 25 = .ok (.ireturn, 1) := by decide +kernel
theorem d_M_grip_0 : dI prog_8_method_12_code 0 (.aload_n 0) 1 1 := by decide +kernel
theorem d_M_grip_1 : dI prog_8_method_12_code 1 (.aload_n 0) 1 2 := by decide +kernel
theorem d_M_grip_2 : dI prog_8_method_12_code 2 (.getfield 7) 3 5 := by decide +kernel
theorem d_M_grip_5 : dI prog_8_method_12_code 5 (.bipush 12) 2 7 ∧ (Int8.ofInt 12).toInt32 = 12 := by decide +kernel
theorem d_M_grip_7 : dI prog_8_method_12_code 7 (.iload_n 1) 1 8 := by decide +kernel
theorem d_M_grip_8 : dI prog_8_method_12_code 8 .iadd 1 9 := by decide +kernel
theorem d_M_grip_9 : dI prog_8_method_12_code 9 .iaload 1 10 := by decide +kernel
theorem d_M_grip_10 : dI prog_8_method_12_code 10 (.aload_n 0) 1 11 := by decide +kernel
theorem d_M_grip_11 : dI prog_8_method_12_code 11 (.getfield 7) 3 14 := by decide +kernel
theorem d_M_grip_14 : dI prog_8_method_12_code 14 (.iconst 3) 1 15 ∧ Int32.ofInt 3 = 3 := by decide +kernel
theorem d_M_grip_15 : dI prog_8_method_12_code 15 .iaload 1 16 := by decide +kernel
theorem d_M_grip_16 : dI prog_8_method_12_code 16 (.invokevirtual 57) 3 19 := by decide +kernel
theorem d_M_grip_19 : decode prog_8_method_12_code 19 = .ok (.ireturn, 1) := by decide +kernel
theorem d_M_weight_0 : dI prog_8_method_13_code 0 (.bipush 20) 2 2 ∧ (Int8.ofInt 20).toInt32 = 20 := by decide +kernel
theorem d_M_weight_2 : dI prog_8_method_13_code 2 (.aload_n 0) 1 3 := by decide +kernel
theorem d_M_weight_3 : dI prog_8_method_13_code 3 (.getfield 7) 3 6 := by decide +kernel
theorem d_M_weight_6 : dI prog_8_method_13_code 6 (.iconst 2) 1 7 ∧ Int32.ofInt 2 = 2 := by decide +kernel
theorem d_M_weight_7 : dI prog_8_method_13_code 7 .iaload 1 8 := by decide +kernel
theorem d_M_weight_8 : dI prog_8_method_13_code 8 (.iconst 2) 1 9 ∧ Int32.ofInt 2 = 2 := by decide +kernel
theorem d_M_weight_9 : dI prog_8_method_13_code 9 .idiv 1 10 := by decide +kernel
theorem d_M_weight_10 : dI prog_8_method_13_code 10 .iadd 1 11 := by decide +kernel
theorem d_M_weight_11 : dI prog_8_method_13_code 11 (.aload_n 0) 1 12 := by decide +kernel
theorem d_M_weight_12 : dI prog_8_method_13_code 12 (.getfield 7) 3 15 := by decide +kernel
theorem d_M_weight_15 : dI prog_8_method_13_code 15 (.iconst 1) 1 16 ∧ Int32.ofInt 1 = 1 := by decide +kernel
theorem d_M_weight_16 : dI prog_8_method_13_code 16 .iaload 1 17 := by decide +kernel
theorem d_M_weight_17 : dI prog_8_method_13_code 17 .iadd 1 18 := by decide +kernel
theorem d_M_weight_18 : decode prog_8_method_13_code 18 = .ok (.ireturn, 1) := by decide +kernel
theorem d_M_sand_0 : dI prog_8_method_14_code 0 (.iload_n 1) 1 1 := by decide +kernel
theorem d_M_sand_1 : dI prog_8_method_14_code 1 (.invokestatic 49) 3 4 := by decide +kernel
theorem d_M_sand_4 : dJ prog_8_method_14_code 4 (.ifCond .eq 13) 13 7 17 := by decide +kernel
theorem d_M_sand_7 : dI prog_8_method_14_code 7 (.iload_n 2) 1 8 := by decide +kernel
theorem d_M_sand_8 : dI prog_8_method_14_code 8 (.iconst 0) 1 9 ∧ Int32.ofInt 0 = 0 := by decide +kernel
theorem d_M_sand_9 : dI prog_8_method_14_code 9 (.bipush 99) 2 11 ∧ (Int8.ofInt 99).toInt32 = 99 := by decide +kernel
theorem d_M_sand_11 : dI prog_8_method_14_code 11 (.invokestatic 45) 3 14 := by decide +kernel
theorem d_M_sand_14 : dJ prog_8_method_14_code 14 (.ifCond .ne 9) 9 17 23 := by decide +kernel
theorem d_M_sand_17 : dI prog_8_method_14_code 17 (.aload_n 0) 1 18 := by decide +kernel
theorem d_M_sand_18 : dI prog_8_method_14_code 18 (.iconst 0) 1 19 ∧ Int32.ofInt 0 = 0 := by decide +kernel
theorem d_M_sand_19 : dI prog_8_method_14_code 19 (.invokevirtual 61) 3 22 := by decide +kernel
theorem d_M_sand_22 : decode prog_8_method_14_code 22 = .ok (.ireturn, 1) := by decide +kernel
theorem d_M_sand_23 : dI prog_8_method_14_code 23 (.aload_n 0) 1 24 := by decide +kernel
theorem d_M_sand_24 : dI prog_8_method_14_code 24 (.getfield 7) 3 27 := by decide +kernel
theorem d_M_sand_27 : dI prog_8_method_14_code 27 (.bipush 12) 2 29 ∧ (Int8.ofInt 12).toInt32 = 12 := by decide +kernel
theorem d_M_sand_29 : dI prog_8_method_14_code 29 (.iload_n 1) 1 30 := by decide +kernel
theorem d_M_sand_30 : dI prog_8_method_14_code 30 .iadd 1 31 := by decide +kernel
theorem d_M_sand_31 : dI prog_8_method_14_code 31 .iaload 1 32 := by decide +kernel
theorem d_M_sand_32 : dI prog_8_method_14_code 32 (.istore_n 3) 1 33 := by decide +kernel
theorem d_M_sand_33 : dI prog_8_method_14_code 33 (.aload_n 0) 1 34 := by decide +kernel
theorem d_M_sand_34 : dI prog_8_method_14_code 34 (.getfield 7) 3 37 := by decide +kernel
theorem d_M_sand_37 : dI prog_8_method_14_code 37 (.bipush 12) 2 39 ∧ (Int8.ofInt 12).toInt32 = 12 := by decide +kernel
theorem d_M_sand_39 : dI prog_8_method_14_code 39 (.iload_n 1) 1 40 := by decide +kernel
theorem d_M_sand_40 : dI prog_8_method_14_code 40 .iadd 1 41 := by decide +kernel
theorem d_M_sand_41 : dI prog_8_method_14_code 41 (.iload_n 2) 1 42 := by decide +kernel
theorem d_M_sand_42 : dI prog_8_method_14_code 42 .iastore 1 43 := by decide +kernel
theorem d_M_sand_43 : dI prog_8_method_14_code 43 (.iload_n 3) 1 44 := by decide +kernel
theorem d_M_sand_44 : decode prog_8_method_14_code 44 = .ok (.ireturn, 1) := by decide +kernel
theorem d_M_yardOf_0 : dI prog_8_method_15_code 0 (.iload_n 1) 1 1 := by decide +kernel
theorem d_M_yardOf_1 : dI prog_8_method_15_code 1 (.invokestatic 49) 3 4 := by decide +kernel
theorem d_M_yardOf_4 : dJ prog_8_method_15_code 4 (.ifCond .eq 12) 12 7 16 := by decide +kernel
theorem d_M_yardOf_7 : dI prog_8_method_15_code 7 (.iload_n 2) 1 8 := by decide +kernel
theorem d_M_yardOf_8 : dI prog_8_method_15_code 8 (.iconst 0) 1 9 ∧ Int32.ofInt 0 = 0 := by decide +kernel
theorem d_M_yardOf_9 : dI prog_8_method_15_code 9 (.iconst 1) 1 10 ∧ Int32.ofInt 1 = 1 := by decide +kernel
theorem d_M_yardOf_10 : dI prog_8_method_15_code 10 (.invokestatic 45) 3 13 := by decide +kernel
theorem d_M_yardOf_13 : dJ prog_8_method_15_code 13 (.ifCond .ne 9) 9 16 22 := by decide +kernel
theorem d_M_yardOf_16 : dI prog_8_method_15_code 16 (.aload_n 0) 1 17 := by decide +kernel
theorem d_M_yardOf_17 : dI prog_8_method_15_code 17 (.iconst 0) 1 18 ∧ Int32.ofInt 0 = 0 := by decide +kernel
theorem d_M_yardOf_18 : dI prog_8_method_15_code 18 (.invokevirtual 61) 3 21 := by decide +kernel
theorem d_M_yardOf_21 : decode prog_8_method_15_code 21 = .ok (.ireturn, 1) := by decide +kernel
theorem d_M_yardOf_22 : dI prog_8_method_15_code 22 (.iload_n 2) 1 23 := by decide +kernel
theorem d_M_yardOf_23 : dJ prog_8_method_15_code 23 (.ifCond .ne 15) 15 26 38 := by decide +kernel
theorem d_M_yardOf_26 : dI prog_8_method_15_code 26 (.aload_n 0) 1 27 := by decide +kernel
theorem d_M_yardOf_27 : dI prog_8_method_15_code 27 (.getfield 7) 3 30 := by decide +kernel
theorem d_M_yardOf_30 : dI prog_8_method_15_code 30 (.bipush 12) 2 32 ∧ (Int8.ofInt 12).toInt32 = 12 := by decide +kernel
theorem d_M_yardOf_32 : dI prog_8_method_15_code 32 (.iload_n 1) 1 33 := by decide +kernel
theorem d_M_yardOf_33 : dI prog_8_method_15_code 33 .iadd 1 34 := by decide +kernel
theorem d_M_yardOf_34 : dI prog_8_method_15_code 34 .iaload 1 35 := by decide +kernel
theorem d_M_yardOf_35 : dJ prog_8_method_15_code 35 (.goto 8) 8 38 43 := by decide +kernel
theorem d_M_yardOf_38 : dI prog_8_method_15_code 38 (.aload_n 0) 1 39 := by decide +kernel
theorem d_M_yardOf_39 : dI prog_8_method_15_code 39 (.iload_n 1) 1 40 := by decide +kernel
theorem d_M_yardOf_40 : dI prog_8_method_15_code 40 (.invokevirtual 65) 3 43 := by decide +kernel
theorem d_M_yardOf_43 : decode prog_8_method_15_code 43 = .ok (.ireturn, 1) := by decide +kernel
theorem d_M_mostOf_0 : dI prog_8_method_16_code 0 (.iload_n 0) 1 1 := by decide +kernel
theorem d_M_mostOf_1 : dJ prog_8_method_16_code 1 (.ifCond .ne 8) 8 4 9 := by decide +kernel
theorem d_M_mostOf_4 : dI prog_8_method_16_code 4 (.bipush 39) 2 6 ∧ (Int8.ofInt 39).toInt32 = 39 := by decide +kernel
theorem d_M_mostOf_6 : dJ prog_8_method_16_code 6 (.goto 42) 42 9 48 := by decide +kernel
theorem d_M_mostOf_9 : dI prog_8_method_16_code 9 (.iload_n 0) 1 10 := by decide +kernel
theorem d_M_mostOf_10 : dI prog_8_method_16_code 10 (.iconst 3) 1 11 ∧ Int32.ofInt 3 = 3 := by decide +kernel
theorem d_M_mostOf_11 : dJ prog_8_method_16_code 11 (.if_icmp .ne 8) 8 14 19 := by decide +kernel
theorem d_M_mostOf_14 : dI prog_8_method_16_code 14 (.bipush 9) 2 16 ∧ (Int8.ofInt 9).toInt32 = 9 := by decide +kernel
theorem d_M_mostOf_16 : dJ prog_8_method_16_code 16 (.goto 32) 32 19 48 := by decide +kernel
theorem d_M_mostOf_19 : dI prog_8_method_16_code 19 (.iload_n 0) 1 20 := by decide +kernel
theorem d_M_mostOf_20 : dI prog_8_method_16_code 20 (.iconst 4) 1 21 ∧ Int32.ofInt 4 = 4 := by decide +kernel
theorem d_M_mostOf_21 : dJ prog_8_method_16_code 21 (.if_icmp .eq 8) 8 24 29 := by decide +kernel
theorem d_M_mostOf_24 : dI prog_8_method_16_code 24 (.iload_n 0) 1 25 := by decide +kernel
theorem d_M_mostOf_25 : dI prog_8_method_16_code 25 (.iconst 5) 1 26 ∧ Int32.ofInt 5 = 5 := by decide +kernel
theorem d_M_mostOf_26 : dJ prog_8_method_16_code 26 (.if_icmp .ne 8) 8 29 34 := by decide +kernel
theorem d_M_mostOf_29 : dI prog_8_method_16_code 29 (.bipush 8) 2 31 ∧ (Int8.ofInt 8).toInt32 = 8 := by decide +kernel
theorem d_M_mostOf_31 : dJ prog_8_method_16_code 31 (.goto 17) 17 34 48 := by decide +kernel
theorem d_M_mostOf_34 : dI prog_8_method_16_code 34 (.iload_n 0) 1 35 := by decide +kernel
theorem d_M_mostOf_35 : dI prog_8_method_16_code 35 (.bipush 6) 2 37 ∧ (Int8.ofInt 6).toInt32 = 6 := by decide +kernel
theorem d_M_mostOf_37 : dJ prog_8_method_16_code 37 (.if_icmp .ne 9) 9 40 46 := by decide +kernel
theorem d_M_mostOf_40 : dI prog_8_method_16_code 40 (.sipush 9999) 3 43 ∧ (Int16.ofInt 9999).toInt32 = 9999 := by decide +kernel
theorem d_M_mostOf_43 : dJ prog_8_method_16_code 43 (.goto 5) 5 46 48 := by decide +kernel
theorem d_M_mostOf_46 : dI prog_8_method_16_code 46 (.bipush 99) 2 48 ∧ (Int8.ofInt 99).toInt32 = 99 := by decide +kernel
theorem d_M_mostOf_48 : decode prog_8_method_16_code 48 = .ok (.ireturn, 1) := by decide +kernel
theorem d_M_isSet_0 : dI prog_8_method_17_code 0 (.iload_n 1) 1 1 := by decide +kernel
theorem d_M_isSet_1 : dI prog_8_method_17_code 1 (.iload_n 0) 1 2 := by decide +kernel
theorem d_M_isSet_2 : dI prog_8_method_17_code 2 (.iconst 5) 1 3 ∧ Int32.ofInt 5 = 5 := by decide +kernel
theorem d_M_isSet_3 : dJ prog_8_method_17_code 3 (.if_icmp .ne 7) 7 6 10 := by decide +kernel
theorem d_M_isSet_6 : dI prog_8_method_17_code 6 (.iconst 1) 1 7 ∧ Int32.ofInt 1 = 1 := by decide +kernel
theorem d_M_isSet_7 : dJ prog_8_method_17_code 7 (.goto 4) 4 10 11 := by decide +kernel
theorem d_M_isSet_10 : dI prog_8_method_17_code 10 (.iconst 0) 1 11 ∧ Int32.ofInt 0 = 0 := by decide +kernel
theorem d_M_isSet_11 : dI prog_8_method_17_code 11 (.iload_n 0) 1 12 := by decide +kernel
theorem d_M_isSet_12 : dI prog_8_method_17_code 12 (.invokestatic 68) 3 15 := by decide +kernel
theorem d_M_isSet_15 : dI prog_8_method_17_code 15 (.invokestatic 45) 3 18 := by decide +kernel
theorem d_M_isSet_18 : decode prog_8_method_17_code 18 = .ok (.ireturn, 1) := by decide +kernel
theorem d_M_set_0 : dI prog_8_method_18_code 0 (.iload_n 1) 1 1 := by decide +kernel
theorem d_M_set_1 : dI prog_8_method_18_code 1 (.iconst 0) 1 2 ∧ Int32.ofInt 0 = 0 := by decide +kernel
theorem d_M_set_2 : dI prog_8_method_18_code 2 (.bipush 6) 2 4 ∧ (Int8.ofInt 6).toInt32 = 6 := by decide +kernel
theorem d_M_set_4 : dI prog_8_method_18_code 4 (.invokestatic 45) 3 7 := by decide +kernel
theorem d_M_set_7 : dJ prog_8_method_18_code 7 (.ifCond .eq 11) 11 10 18 := by decide +kernel
theorem d_M_set_10 : dI prog_8_method_18_code 10 (.iload_n 1) 1 11 := by decide +kernel
theorem d_M_set_11 : dI prog_8_method_18_code 11 (.iload_n 2) 1 12 := by decide +kernel
theorem d_M_set_12 : dI prog_8_method_18_code 12 (.invokestatic 71) 3 15 := by decide +kernel
theorem d_M_set_15 : dJ prog_8_method_18_code 15 (.ifCond .ne 9) 9 18 24 := by decide +kernel
theorem d_M_set_18 : dI prog_8_method_18_code 18 (.aload_n 0) 1 19 := by decide +kernel
theorem d_M_set_19 : dI prog_8_method_18_code 19 (.iconst 0) 1 20 ∧ Int32.ofInt 0 = 0 := by decide +kernel
theorem d_M_set_20 : dI prog_8_method_18_code 20 (.invokevirtual 61) 3 23 := by decide +kernel
theorem d_M_set_23 : decode prog_8_method_18_code 23 = .ok (.ireturn, 1) := by decide +kernel
theorem d_M_set_24 : dI prog_8_method_18_code 24 (.aload_n 0) 1 25 := by decide +kernel
theorem d_M_set_25 : dI prog_8_method_18_code 25 (.getfield 7) 3 28 := by decide +kernel
theorem d_M_set_28 : dI prog_8_method_18_code 28 (.iload_n 1) 1 29 := by decide +kernel
theorem d_M_set_29 : dI prog_8_method_18_code 29 .iaload 1 30 := by decide +kernel
theorem d_M_set_30 : dI prog_8_method_18_code 30 (.istore_n 3) 1 31 := by decide +kernel
theorem d_M_set_31 : dI prog_8_method_18_code 31 (.aload_n 0) 1 32 := by decide +kernel
theorem d_M_set_32 : dI prog_8_method_18_code 32 (.getfield 7) 3 35 := by decide +kernel
theorem d_M_set_35 : dI prog_8_method_18_code 35 (.iload_n 1) 1 36 := by decide +kernel
theorem d_M_set_36 : dI prog_8_method_18_code 36 (.iload_n 2) 1 37 := by decide +kernel
theorem d_M_set_37 : dI prog_8_method_18_code 37 .iastore 1 38 := by decide +kernel
theorem d_M_set_38 : dI prog_8_method_18_code 38 (.iload_n 3) 1 39 := by decide +kernel
theorem d_M_set_39 : decode prog_8_method_18_code 39 = .ok (.ireturn, 1) := by decide +kernel
theorem d_M_now_0 : dI prog_8_method_19_code 0 (.iload_n 1) 1 1 := by decide +kernel
theorem d_M_now_1 : decode prog_8_method_19_code 1 = .ok (.tableswitch 83 8 13 #[39, 44, 49, 54, 67, 75], 39) := by decide +kernel
theorem d_M_now_40 : dI prog_8_method_19_code 40 (.aload_n 0) 1 41 := by decide +kernel
theorem d_M_now_41 : dI prog_8_method_19_code 41 (.invokevirtual 53) 3 44 := by decide +kernel
theorem d_M_now_44 : decode prog_8_method_19_code 44 = .ok (.ireturn, 1) := by decide +kernel
theorem d_M_now_45 : dI prog_8_method_19_code 45 (.aload_n 0) 1 46 := by decide +kernel
theorem d_M_now_46 : dI prog_8_method_19_code 46 (.invokevirtual 75) 3 49 := by decide +kernel
theorem d_M_now_49 : decode prog_8_method_19_code 49 = .ok (.ireturn, 1) := by decide +kernel
theorem d_M_now_50 : dI prog_8_method_19_code 50 (.aload_n 0) 1 51 := by decide +kernel
theorem d_M_now_51 : dI prog_8_method_19_code 51 (.invokevirtual 78) 3 54 := by decide +kernel
theorem d_M_now_54 : decode prog_8_method_19_code 54 = .ok (.ireturn, 1) := by decide +kernel
theorem d_M_now_55 : dI prog_8_method_19_code 55 (.aload_n 0) 1 56 := by decide +kernel
theorem d_M_now_56 : dI prog_8_method_19_code 56 (.invokevirtual 81) 3 59 := by decide +kernel
theorem d_M_now_59 : dJ prog_8_method_19_code 59 (.ifCond .eq 7) 7 62 66 := by decide +kernel
theorem d_M_now_62 : dI prog_8_method_19_code 62 (.iconst 1) 1 63 ∧ Int32.ofInt 1 = 1 := by decide +kernel
theorem d_M_now_63 : dJ prog_8_method_19_code 63 (.goto 4) 4 66 67 := by decide +kernel
theorem d_M_now_66 : dI prog_8_method_19_code 66 (.iconst 0) 1 67 ∧ Int32.ofInt 0 = 0 := by decide +kernel
theorem d_M_now_67 : decode prog_8_method_19_code 67 = .ok (.ireturn, 1) := by decide +kernel
theorem d_M_now_68 : dI prog_8_method_19_code 68 (.aload_n 0) 1 69 := by decide +kernel
theorem d_M_now_69 : dI prog_8_method_19_code 69 (.getfield 7) 3 72 := by decide +kernel
theorem d_M_now_72 : dI prog_8_method_19_code 72 (.bipush 8) 2 74 ∧ (Int8.ofInt 8).toInt32 = 8 := by decide +kernel
theorem d_M_now_74 : dI prog_8_method_19_code 74 .iaload 1 75 := by decide +kernel
theorem d_M_now_75 : decode prog_8_method_19_code 75 = .ok (.ireturn, 1) := by decide +kernel
theorem d_M_now_76 : dI prog_8_method_19_code 76 (.aload_n 0) 1 77 := by decide +kernel
theorem d_M_now_77 : dI prog_8_method_19_code 77 (.getfield 7) 3 80 := by decide +kernel
theorem d_M_now_80 : dI prog_8_method_19_code 80 (.bipush 9) 2 82 ∧ (Int8.ofInt 9).toInt32 = 9 := by decide +kernel
theorem d_M_now_82 : dI prog_8_method_19_code 82 .iaload 1 83 := by decide +kernel
theorem d_M_now_83 : decode prog_8_method_19_code 83 = .ok (.ireturn, 1) := by decide +kernel
theorem d_M_now_84 : dI prog_8_method_19_code 84 (.iload_n 1) 1 85 := by decide +kernel
theorem d_M_now_85 : dI prog_8_method_19_code 85 (.iconst 0) 1 86 ∧ Int32.ofInt 0 = 0 := by decide +kernel
theorem d_M_now_86 : dI prog_8_method_19_code 86 (.bipush 7) 2 88 ∧ (Int8.ofInt 7).toInt32 = 7 := by decide +kernel
theorem d_M_now_88 : dI prog_8_method_19_code 88 (.invokestatic 45) 3 91 := by decide +kernel
theorem d_M_now_91 : dJ prog_8_method_19_code 91 (.ifCond .eq 12) 12 94 103 := by decide +kernel
theorem d_M_now_94 : dI prog_8_method_19_code 94 (.aload_n 0) 1 95 := by decide +kernel
theorem d_M_now_95 : dI prog_8_method_19_code 95 (.getfield 7) 3 98 := by decide +kernel
theorem d_M_now_98 : dI prog_8_method_19_code 98 (.iload_n 1) 1 99 := by decide +kernel
theorem d_M_now_99 : dI prog_8_method_19_code 99 .iaload 1 100 := by decide +kernel
theorem d_M_now_100 : dJ prog_8_method_19_code 100 (.goto 8) 8 103 108 := by decide +kernel
theorem d_M_now_103 : dI prog_8_method_19_code 103 (.aload_n 0) 1 104 := by decide +kernel
theorem d_M_now_104 : dI prog_8_method_19_code 104 (.iconst 0) 1 105 ∧ Int32.ofInt 0 = 0 := by decide +kernel
theorem d_M_now_105 : dI prog_8_method_19_code 105 (.invokevirtual 61) 3 108 := by decide +kernel
theorem d_M_now_108 : decode prog_8_method_19_code 108 = .ok (.ireturn, 1) := by decide +kernel
theorem d_M_soft_0 : dI prog_8_method_20_code 0 (.iload_n 1) 1 1 := by decide +kernel
theorem d_M_soft_1 : dI prog_8_method_20_code 1 (.iconst 0) 1 2 ∧ Int32.ofInt 0 = 0 := by decide +kernel
theorem d_M_soft_2 : dI prog_8_method_20_code 2 (.bipush 100) 2 4 ∧ (Int8.ofInt 100).toInt32 = 100 := by decide +kernel
theorem d_M_soft_4 : dI prog_8_method_20_code 4 (.invokestatic 45) 3 7 := by decide +kernel
theorem d_M_soft_7 : dJ prog_8_method_20_code 7 (.ifCond .eq 12) 12 10 19 := by decide +kernel
theorem d_M_soft_10 : dI prog_8_method_20_code 10 (.iload_n 2) 1 11 := by decide +kernel
theorem d_M_soft_11 : dI prog_8_method_20_code 11 (.iconst 0) 1 12 ∧ Int32.ofInt 0 = 0 := by decide +kernel
theorem d_M_soft_12 : dI prog_8_method_20_code 12 (.iconst 1) 1 13 ∧ Int32.ofInt 1 = 1 := by decide +kernel
theorem d_M_soft_13 : dI prog_8_method_20_code 13 (.invokestatic 45) 3 16 := by decide +kernel
theorem d_M_soft_16 : dJ prog_8_method_20_code 16 (.ifCond .ne 9) 9 19 25 := by decide +kernel
theorem d_M_soft_19 : dI prog_8_method_20_code 19 (.aload_n 0) 1 20 := by decide +kernel
theorem d_M_soft_20 : dI prog_8_method_20_code 20 (.iconst 0) 1 21 ∧ Int32.ofInt 0 = 0 := by decide +kernel
theorem d_M_soft_21 : dI prog_8_method_20_code 21 (.invokevirtual 61) 3 24 := by decide +kernel
theorem d_M_soft_24 : decode prog_8_method_20_code 24 = .ok (.ireturn, 1) := by decide +kernel
theorem d_M_soft_25 : dI prog_8_method_20_code 25 (.iconst 0) 1 26 ∧ Int32.ofInt 0 = 0 := by decide +kernel
theorem d_M_soft_26 : dI prog_8_method_20_code 26 (.istore_n 3) 1 27 := by decide +kernel
theorem d_M_soft_27 : dI prog_8_method_20_code 27 (.iconst (-1)) 1 28 ∧ Int32.ofInt (-1) = (-1) := by decide +kernel
theorem d_M_soft_28 : dI prog_8_method_20_code 28 (.istore 4) 2 30 := by decide +kernel
theorem d_M_soft_30 : dI prog_8_method_20_code 30 (.iconst 0) 1 31 ∧ Int32.ofInt 0 = 0 := by decide +kernel
theorem d_M_soft_31 : dI prog_8_method_20_code 31 (.istore 5) 2 33 := by decide +kernel
theorem d_M_soft_33 : dI prog_8_method_20_code 33 (.iconst 0) 1 34 ∧ Int32.ofInt 0 = 0 := by decide +kernel
theorem d_M_soft_34 : dI prog_8_method_20_code 34 (.istore 6) 2 36 := by decide +kernel
theorem d_M_soft_36 : dI prog_8_method_20_code 36 (.iload 6) 2 38 := by decide +kernel
theorem d_M_soft_38 : dI prog_8_method_20_code 38 (.bipush 40) 2 40 ∧ (Int8.ofInt 40).toInt32 = 40 := by decide +kernel
theorem d_M_soft_40 : dJ prog_8_method_20_code 40 (.if_icmp .ge 66) 66 43 106 := by decide +kernel
theorem d_M_soft_43 : dI prog_8_method_20_code 43 (.aload_n 0) 1 44 := by decide +kernel
theorem d_M_soft_44 : dI prog_8_method_20_code 44 (.getfield 7) 3 47 := by decide +kernel
theorem d_M_soft_47 : dI prog_8_method_20_code 47 (.bipush 12) 2 49 ∧ (Int8.ofInt 12).toInt32 = 12 := by decide +kernel
theorem d_M_soft_49 : dI prog_8_method_20_code 49 (.iload 6) 2 51 := by decide +kernel
theorem d_M_soft_51 : dI prog_8_method_20_code 51 .iadd 1 52 := by decide +kernel
theorem d_M_soft_52 : dI prog_8_method_20_code 52 .iaload 1 53 := by decide +kernel
theorem d_M_soft_53 : dI prog_8_method_20_code 53 (.iload_n 1) 1 54 := by decide +kernel
theorem d_M_soft_54 : dJ prog_8_method_20_code 54 (.if_icmp .ge 10) 10 57 64 := by decide +kernel
theorem d_M_soft_57 : dI prog_8_method_20_code 57 (.iload 5) 2 59 := by decide +kernel
theorem d_M_soft_59 : dI prog_8_method_20_code 59 (.iconst 1) 1 60 ∧ Int32.ofInt 1 = 1 := by decide +kernel
theorem d_M_soft_60 : dI prog_8_method_20_code 60 .iadd 1 61 := by decide +kernel
theorem d_M_soft_61 : dJ prog_8_method_20_code 61 (.goto 4) 4 64 65 := by decide +kernel
theorem d_M_soft_64 : dI prog_8_method_20_code 64 (.iconst 0) 1 65 ∧ Int32.ofInt 0 = 0 := by decide +kernel
theorem d_M_soft_65 : dI prog_8_method_20_code 65 (.istore 5) 2 67 := by decide +kernel
theorem d_M_soft_67 : dI prog_8_method_20_code 67 (.iload 5) 2 69 := by decide +kernel
theorem d_M_soft_69 : dI prog_8_method_20_code 69 (.iload_n 3) 1 70 := by decide +kernel
theorem d_M_soft_70 : dJ prog_8_method_20_code 70 (.if_icmp .le 13) 13 73 83 := by decide +kernel
theorem d_M_soft_73 : dI prog_8_method_20_code 73 (.iload 6) 2 75 := by decide +kernel
theorem d_M_soft_75 : dI prog_8_method_20_code 75 (.iload 5) 2 77 := by decide +kernel
theorem d_M_soft_77 : dI prog_8_method_20_code 77 .isub 1 78 := by decide +kernel
theorem d_M_soft_78 : dI prog_8_method_20_code 78 (.iconst 1) 1 79 ∧ Int32.ofInt 1 = 1 := by decide +kernel
theorem d_M_soft_79 : dI prog_8_method_20_code 79 .iadd 1 80 := by decide +kernel
theorem d_M_soft_80 : dJ prog_8_method_20_code 80 (.goto 5) 5 83 85 := by decide +kernel
theorem d_M_soft_83 : dI prog_8_method_20_code 83 (.iload 4) 2 85 := by decide +kernel
theorem d_M_soft_85 : dI prog_8_method_20_code 85 (.istore 4) 2 87 := by decide +kernel
theorem d_M_soft_87 : dI prog_8_method_20_code 87 (.iload 5) 2 89 := by decide +kernel
theorem d_M_soft_89 : dI prog_8_method_20_code 89 (.iload_n 3) 1 90 := by decide +kernel
theorem d_M_soft_90 : dJ prog_8_method_20_code 90 (.if_icmp .le 8) 8 93 98 := by decide +kernel
theorem d_M_soft_93 : dI prog_8_method_20_code 93 (.iload 5) 2 95 := by decide +kernel
theorem d_M_soft_95 : dJ prog_8_method_20_code 95 (.goto 4) 4 98 99 := by decide +kernel
theorem d_M_soft_98 : dI prog_8_method_20_code 98 (.iload_n 3) 1 99 := by decide +kernel
theorem d_M_soft_99 : dI prog_8_method_20_code 99 (.istore_n 3) 1 100 := by decide +kernel
theorem d_M_soft_100 : dI prog_8_method_20_code 100 (.iinc 6 1) 3 103 ∧ Int32.ofInt 1 = 1 := by decide +kernel
theorem d_M_soft_103 : dJ prog_8_method_20_code 103 (.goto (-67)) (-67) 106 36 := by decide +kernel
theorem d_M_soft_106 : dI prog_8_method_20_code 106 (.iload_n 2) 1 107 := by decide +kernel
theorem d_M_soft_107 : dJ prog_8_method_20_code 107 (.ifCond .ne 7) 7 110 114 := by decide +kernel
theorem d_M_soft_110 : dI prog_8_method_20_code 110 (.iload_n 3) 1 111 := by decide +kernel
theorem d_M_soft_111 : dJ prog_8_method_20_code 111 (.goto 5) 5 114 116 := by decide +kernel
theorem d_M_soft_114 : dI prog_8_method_20_code 114 (.iload 4) 2 116 := by decide +kernel
theorem d_M_soft_116 : decode prog_8_method_20_code 116 = .ok (.ireturn, 1) := by decide +kernel
theorem d_M_draw_0 : dI prog_8_method_21_code 0 (.aload_n 0) 1 1 := by decide +kernel
theorem d_M_draw_1 : dI prog_8_method_21_code 1 (.getfield 7) 3 4 := by decide +kernel
theorem d_M_draw_4 : dI prog_8_method_21_code 4 (.bipush 10) 2 6 ∧ (Int8.ofInt 10).toInt32 = 10 := by decide +kernel
theorem d_M_draw_6 : dI prog_8_method_21_code 6 (.aload_n 0) 1 7 := by decide +kernel
theorem d_M_draw_7 : dI prog_8_method_21_code 7 (.getfield 7) 3 10 := by decide +kernel
theorem d_M_draw_10 : dI prog_8_method_21_code 10 (.bipush 10) 2 12 ∧ (Int8.ofInt 10).toInt32 = 10 := by decide +kernel
theorem d_M_draw_12 : dI prog_8_method_21_code 12 .iaload 1 13 := by decide +kernel
theorem d_M_draw_13 : dI prog_8_method_21_code 13 (.ldc 85) 2 15 := by decide +kernel
theorem d_M_draw_15 : dI prog_8_method_21_code 15 .imul 1 16 := by decide +kernel
theorem d_M_draw_16 : dI prog_8_method_21_code 16 (.sipush 12345) 3 19 ∧ (Int16.ofInt 12345).toInt32 = 12345 := by decide +kernel
theorem d_M_draw_19 : dI prog_8_method_21_code 19 .iadd 1 20 := by decide +kernel
theorem d_M_draw_20 : dI prog_8_method_21_code 20 .iastore 1 21 := by decide +kernel
theorem d_M_draw_21 : dI prog_8_method_21_code 21 (.aload_n 0) 1 22 := by decide +kernel
theorem d_M_draw_22 : dI prog_8_method_21_code 22 (.getfield 7) 3 25 := by decide +kernel
theorem d_M_draw_25 : dI prog_8_method_21_code 25 (.bipush 10) 2 27 ∧ (Int8.ofInt 10).toInt32 = 10 := by decide +kernel
theorem d_M_draw_27 : dI prog_8_method_21_code 27 .iaload 1 28 := by decide +kernel
theorem d_M_draw_28 : dI prog_8_method_21_code 28 (.bipush 8) 2 30 ∧ (Int8.ofInt 8).toInt32 = 8 := by decide +kernel
theorem d_M_draw_30 : dI prog_8_method_21_code 30 .iushr 1 31 := by decide +kernel
theorem d_M_draw_31 : decode prog_8_method_21_code 31 = .ok (.ireturn, 1) := by decide +kernel
theorem d_M_allFirm_0 : dI prog_8_method_22_code 0 (.iconst 0) 1 1 ∧ Int32.ofInt 0 = 0 := by decide +kernel
theorem d_M_allFirm_1 : dI prog_8_method_22_code 1 (.istore_n 1) 1 2 := by decide +kernel
theorem d_M_allFirm_2 : dI prog_8_method_22_code 2 (.iconst 0) 1 3 ∧ Int32.ofInt 0 = 0 := by decide +kernel
theorem d_M_allFirm_3 : dI prog_8_method_22_code 3 (.istore_n 2) 1 4 := by decide +kernel
theorem d_M_allFirm_4 : dI prog_8_method_22_code 4 (.iload_n 2) 1 5 := by decide +kernel
theorem d_M_allFirm_5 : dI prog_8_method_22_code 5 (.bipush 40) 2 7 ∧ (Int8.ofInt 40).toInt32 = 40 := by decide +kernel
theorem d_M_allFirm_7 : dJ prog_8_method_22_code 7 (.if_icmp .ge 21) 21 10 28 := by decide +kernel
theorem d_M_allFirm_10 : dI prog_8_method_22_code 10 (.iload_n 1) 1 11 := by decide +kernel
theorem d_M_allFirm_11 : dI prog_8_method_22_code 11 (.aload_n 0) 1 12 := by decide +kernel
theorem d_M_allFirm_12 : dI prog_8_method_22_code 12 (.getfield 7) 3 15 := by decide +kernel
theorem d_M_allFirm_15 : dI prog_8_method_22_code 15 (.bipush 12) 2 17 ∧ (Int8.ofInt 12).toInt32 = 12 := by decide +kernel
theorem d_M_allFirm_17 : dI prog_8_method_22_code 17 (.iload_n 2) 1 18 := by decide +kernel
theorem d_M_allFirm_18 : dI prog_8_method_22_code 18 .iadd 1 19 := by decide +kernel
theorem d_M_allFirm_19 : dI prog_8_method_22_code 19 .iaload 1 20 := by decide +kernel
theorem d_M_allFirm_20 : dI prog_8_method_22_code 20 .iadd 1 21 := by decide +kernel
theorem d_M_allFirm_21 : dI prog_8_method_22_code 21 (.istore_n 1) 1 22 := by decide +kernel
theorem d_M_allFirm_22 : dI prog_8_method_22_code 22 (.iinc 2 1) 3 25 ∧ Int32.ofInt 1 = 1 := by decide +kernel
theorem d_M_allFirm_25 : dJ prog_8_method_22_code 25 (.goto (-21)) (-21) 28 4 := by decide +kernel
theorem d_M_allFirm_28 : dI prog_8_method_22_code 28 (.iload_n 1) 1 29 := by decide +kernel
theorem d_M_allFirm_29 : decode prog_8_method_22_code 29 = .ok (.ireturn, 1) := by decide +kernel
theorem d_M_wind_0 : dI prog_8_method_23_code 0 (.iload_n 1) 1 1 := by decide +kernel
theorem d_M_wind_1 : dI prog_8_method_23_code 1 (.iconst 1) 1 2 ∧ Int32.ofInt 1 = 1 := by decide +kernel
theorem d_M_wind_2 : dI prog_8_method_23_code 2 (.bipush 60) 2 4 ∧ (Int8.ofInt 60).toInt32 = 60 := by decide +kernel
theorem d_M_wind_4 : dI prog_8_method_23_code 4 (.invokestatic 45) 3 7 := by decide +kernel
theorem d_M_wind_7 : dJ prog_8_method_23_code 7 (.ifCond .ne 9) 9 10 16 := by decide +kernel
theorem d_M_wind_10 : dI prog_8_method_23_code 10 (.aload_n 0) 1 11 := by decide +kernel
theorem d_M_wind_11 : dI prog_8_method_23_code 11 (.iconst 0) 1 12 ∧ Int32.ofInt 0 = 0 := by decide +kernel
theorem d_M_wind_12 : dI prog_8_method_23_code 12 (.invokevirtual 61) 3 15 := by decide +kernel
theorem d_M_wind_15 : decode prog_8_method_23_code 15 = .ok (.ireturn, 1) := by decide +kernel
theorem d_M_wind_16 : dI prog_8_method_23_code 16 (.iconst 0) 1 17 ∧ Int32.ofInt 0 = 0 := by decide +kernel
theorem d_M_wind_17 : dI prog_8_method_23_code 17 (.istore_n 2) 1 18 := by decide +kernel
theorem d_M_wind_18 : dI prog_8_method_23_code 18 (.iload_n 2) 1 19 := by decide +kernel
theorem d_M_wind_19 : dI prog_8_method_23_code 19 (.iload_n 1) 1 20 := by decide +kernel
theorem d_M_wind_20 : dJ prog_8_method_23_code 20 (.if_icmp .ge 33) 33 23 53 := by decide +kernel
theorem d_M_wind_23 : dI prog_8_method_23_code 23 (.aload_n 0) 1 24 := by decide +kernel
theorem d_M_wind_24 : dI prog_8_method_23_code 24 (.invokevirtual 86) 3 27 := by decide +kernel
theorem d_M_wind_27 : dI prog_8_method_23_code 27 (.bipush 40) 2 29 ∧ (Int8.ofInt 40).toInt32 = 40 := by decide +kernel
theorem d_M_wind_29 : dI prog_8_method_23_code 29 .irem 1 30 := by decide +kernel
theorem d_M_wind_30 : dI prog_8_method_23_code 30 (.istore_n 3) 1 31 := by decide +kernel
theorem d_M_wind_31 : dI prog_8_method_23_code 31 (.aload_n 0) 1 32 := by decide +kernel
theorem d_M_wind_32 : dI prog_8_method_23_code 32 (.getfield 7) 3 35 := by decide +kernel
theorem d_M_wind_35 : dI prog_8_method_23_code 35 (.bipush 12) 2 37 ∧ (Int8.ofInt 12).toInt32 = 12 := by decide +kernel
theorem d_M_wind_37 : dI prog_8_method_23_code 37 (.iload_n 3) 1 38 := by decide +kernel
theorem d_M_wind_38 : dI prog_8_method_23_code 38 .iadd 1 39 := by decide +kernel
theorem d_M_wind_39 : dI prog_8_method_23_code 39 (.aload_n 0) 1 40 := by decide +kernel
theorem d_M_wind_40 : dI prog_8_method_23_code 40 (.invokevirtual 86) 3 43 := by decide +kernel
theorem d_M_wind_43 : dI prog_8_method_23_code 43 (.bipush 100) 2 45 ∧ (Int8.ofInt 100).toInt32 = 100 := by decide +kernel
theorem d_M_wind_45 : dI prog_8_method_23_code 45 .irem 1 46 := by decide +kernel
theorem d_M_wind_46 : dI prog_8_method_23_code 46 .iastore 1 47 := by decide +kernel
theorem d_M_wind_47 : dI prog_8_method_23_code 47 (.iinc 2 1) 3 50 ∧ Int32.ofInt 1 = 1 := by decide +kernel
theorem d_M_wind_50 : dJ prog_8_method_23_code 50 (.goto (-32)) (-32) 53 18 := by decide +kernel
theorem d_M_wind_53 : dI prog_8_method_23_code 53 (.aload_n 0) 1 54 := by decide +kernel
theorem d_M_wind_54 : dI prog_8_method_23_code 54 (.invokevirtual 89) 3 57 := by decide +kernel
theorem d_M_wind_57 : decode prog_8_method_23_code 57 = .ok (.ireturn, 1) := by decide +kernel
theorem d_M_minutesOf_0 : dI prog_8_method_24_code 0 (.iload_n 1) 1 1 := by decide +kernel
theorem d_M_minutesOf_1 : decode prog_8_method_24_code 1 = .ok (.tableswitch 94 1 7 #[43, 46, 52, 55, 49, 94, 58], 43) := by decide +kernel
theorem d_M_minutesOf_44 : dI prog_8_method_24_code 44 (.bipush 30) 2 46 ∧ (Int8.ofInt 30).toInt32 = 30 := by decide +kernel
theorem d_M_minutesOf_46 : decode prog_8_method_24_code 46 = .ok (.ireturn, 1) := by decide +kernel
theorem d_M_minutesOf_47 : dI prog_8_method_24_code 47 (.bipush 45) 2 49 ∧ (Int8.ofInt 45).toInt32 = 45 := by decide +kernel
theorem d_M_minutesOf_49 : decode prog_8_method_24_code 49 = .ok (.ireturn, 1) := by decide +kernel
theorem d_M_minutesOf_50 : dI prog_8_method_24_code 50 (.bipush 105) 2 52 ∧ (Int8.ofInt 105).toInt32 = 105 := by decide +kernel
theorem d_M_minutesOf_52 : decode prog_8_method_24_code 52 = .ok (.ireturn, 1) := by decide +kernel
theorem d_M_minutesOf_53 : dI prog_8_method_24_code 53 (.bipush 40) 2 55 ∧ (Int8.ofInt 40).toInt32 = 40 := by decide +kernel
theorem d_M_minutesOf_55 : decode prog_8_method_24_code 55 = .ok (.ireturn, 1) := by decide +kernel
theorem d_M_minutesOf_56 : dI prog_8_method_24_code 56 (.bipush 10) 2 58 ∧ (Int8.ofInt 10).toInt32 = 10 := by decide +kernel
theorem d_M_minutesOf_58 : decode prog_8_method_24_code 58 = .ok (.ireturn, 1) := by decide +kernel
theorem d_M_minutesOf_59 : dI prog_8_method_24_code 59 (.sipush 1680) 3 62 ∧ (Int16.ofInt 1680).toInt32 = 1680 := by decide +kernel
theorem d_M_minutesOf_62 : dI prog_8_method_24_code 62 (.sipush 840) 3 65 ∧ (Int16.ofInt 840).toInt32 = 840 := by decide +kernel
theorem d_M_minutesOf_65 : dI prog_8_method_24_code 65 (.aload_n 0) 1 66 := by decide +kernel
theorem d_M_minutesOf_66 : dI prog_8_method_24_code 66 (.getfield 7) 3 69 := by decide +kernel
theorem d_M_minutesOf_69 : dI prog_8_method_24_code 69 (.bipush 7) 2 71 ∧ (Int8.ofInt 7).toInt32 = 7 := by decide +kernel
theorem d_M_minutesOf_71 : dI prog_8_method_24_code 71 .iaload 1 72 := by decide +kernel
theorem d_M_minutesOf_72 : dI prog_8_method_24_code 72 .iadd 1 73 := by decide +kernel
theorem d_M_minutesOf_73 : dI prog_8_method_24_code 73 (.sipush 1440) 3 76 ∧ (Int16.ofInt 1440).toInt32 = 1440 := by decide +kernel
theorem d_M_minutesOf_76 : dI prog_8_method_24_code 76 .irem 1 77 := by decide +kernel
theorem d_M_minutesOf_77 : dI prog_8_method_24_code 77 .isub 1 78 := by decide +kernel
theorem d_M_minutesOf_78 : dI prog_8_method_24_code 78 (.sipush 1440) 3 81 ∧ (Int16.ofInt 1440).toInt32 = 1440 := by decide +kernel
theorem d_M_minutesOf_81 : dI prog_8_method_24_code 81 .irem 1 82 := by decide +kernel
theorem d_M_minutesOf_82 : dI prog_8_method_24_code 82 (.istore_n 2) 1 83 := by decide +kernel
theorem d_M_minutesOf_83 : dI prog_8_method_24_code 83 (.iload_n 2) 1 84 := by decide +kernel
theorem d_M_minutesOf_84 : dJ prog_8_method_24_code 84 (.ifCond .ne 9) 9 87 93 := by decide +kernel
theorem d_M_minutesOf_87 : dI prog_8_method_24_code 87 (.sipush 1440) 3 90 ∧ (Int16.ofInt 1440).toInt32 = 1440 := by decide +kernel
theorem d_M_minutesOf_90 : dJ prog_8_method_24_code 90 (.goto 4) 4 93 94 := by decide +kernel
theorem d_M_minutesOf_93 : dI prog_8_method_24_code 93 (.iload_n 2) 1 94 := by decide +kernel
theorem d_M_minutesOf_94 : decode prog_8_method_24_code 94 = .ok (.ireturn, 1) := by decide +kernel
theorem d_M_minutesOf_95 : dI prog_8_method_24_code 95 (.iconst 1) 1 96 ∧ Int32.ofInt 1 = 1 := by decide +kernel
theorem d_M_minutesOf_96 : decode prog_8_method_24_code 96 = .ok (.ireturn, 1) := by decide +kernel
theorem d_M_workOf_0 : dI prog_8_method_25_code 0 (.iload_n 0) 1 1 := by decide +kernel
theorem d_M_workOf_1 : dI prog_8_method_25_code 1 (.iconst 1) 1 2 ∧ Int32.ofInt 1 = 1 := by decide +kernel
theorem d_M_workOf_2 : dJ prog_8_method_25_code 2 (.if_icmp .eq 8) 8 5 10 := by decide +kernel
theorem d_M_workOf_5 : dI prog_8_method_25_code 5 (.iload_n 0) 1 6 := by decide +kernel
theorem d_M_workOf_6 : dI prog_8_method_25_code 6 (.iconst 2) 1 7 ∧ Int32.ofInt 2 = 2 := by decide +kernel
theorem d_M_workOf_7 : dJ prog_8_method_25_code 7 (.if_icmp .ne 7) 7 10 14 := by decide +kernel
theorem d_M_workOf_10 : dI prog_8_method_25_code 10 (.iconst 3) 1 11 ∧ Int32.ofInt 3 = 3 := by decide +kernel
theorem d_M_workOf_11 : dJ prog_8_method_25_code 11 (.goto 22) 22 14 33 := by decide +kernel
theorem d_M_workOf_14 : dI prog_8_method_25_code 14 (.iload_n 0) 1 15 := by decide +kernel
theorem d_M_workOf_15 : dI prog_8_method_25_code 15 (.iconst 5) 1 16 ∧ Int32.ofInt 5 = 5 := by decide +kernel
theorem d_M_workOf_16 : dJ prog_8_method_25_code 16 (.if_icmp .ne 7) 7 19 23 := by decide +kernel
theorem d_M_workOf_19 : dI prog_8_method_25_code 19 (.iconst 4) 1 20 ∧ Int32.ofInt 4 = 4 := by decide +kernel
theorem d_M_workOf_20 : dJ prog_8_method_25_code 20 (.goto 13) 13 23 33 := by decide +kernel
theorem d_M_workOf_23 : dI prog_8_method_25_code 23 (.iload_n 0) 1 24 := by decide +kernel
theorem d_M_workOf_24 : dI prog_8_method_25_code 24 (.iconst 3) 1 25 ∧ Int32.ofInt 3 = 3 := by decide +kernel
theorem d_M_workOf_25 : dJ prog_8_method_25_code 25 (.if_icmp .ne 7) 7 28 32 := by decide +kernel
theorem d_M_workOf_28 : dI prog_8_method_25_code 28 (.iconst 2) 1 29 ∧ Int32.ofInt 2 = 2 := by decide +kernel
theorem d_M_workOf_29 : dJ prog_8_method_25_code 29 (.goto 4) 4 32 33 := by decide +kernel
theorem d_M_workOf_32 : dI prog_8_method_25_code 32 (.iconst 0) 1 33 ∧ Int32.ofInt 0 = 0 := by decide +kernel
theorem d_M_workOf_33 : decode prog_8_method_25_code 33 = .ok (.ireturn, 1) := by decide +kernel
theorem d_M_drinks_0 : dI prog_8_method_26_code 0 (.aload_n 0) 1 1 := by decide +kernel
theorem d_M_drinks_1 : dI prog_8_method_26_code 1 (.getfield 7) 3 4 := by decide +kernel
theorem d_M_drinks_4 : dI prog_8_method_26_code 4 (.iconst 5) 1 5 ∧ Int32.ofInt 5 = 5 := by decide +kernel
theorem d_M_drinks_5 : dI prog_8_method_26_code 5 .iaload 1 6 := by decide +kernel
theorem d_M_drinks_6 : dI prog_8_method_26_code 6 (.iload_n 1) 1 7 := by decide +kernel
theorem d_M_drinks_7 : dI prog_8_method_26_code 7 (.invokestatic 92) 3 10 := by decide +kernel
theorem d_M_drinks_10 : dI prog_8_method_26_code 10 (.iconst 1) 1 11 ∧ Int32.ofInt 1 = 1 := by decide +kernel
theorem d_M_drinks_11 : dI prog_8_method_26_code 11 .iadd 1 12 := by decide +kernel
theorem d_M_drinks_12 : dI prog_8_method_26_code 12 .imul 1 13 := by decide +kernel
theorem d_M_drinks_13 : dI prog_8_method_26_code 13 (.aload_n 0) 1 14 := by decide +kernel
theorem d_M_drinks_14 : dI prog_8_method_26_code 14 (.invokevirtual 75) 3 17 := by decide +kernel
theorem d_M_drinks_17 : dI prog_8_method_26_code 17 .imul 1 18 := by decide +kernel
theorem d_M_drinks_18 : dI prog_8_method_26_code 18 (.aload_n 0) 1 19 := by decide +kernel
theorem d_M_drinks_19 : dI prog_8_method_26_code 19 (.iload_n 1) 1 20 := by decide +kernel
theorem d_M_drinks_20 : dI prog_8_method_26_code 20 (.invokevirtual 95) 3 23 := by decide +kernel
theorem d_M_drinks_23 : dI prog_8_method_26_code 23 .imul 1 24 := by decide +kernel
theorem d_M_drinks_24 : dI prog_8_method_26_code 24 (.bipush 60) 2 26 ∧ (Int8.ofInt 60).toInt32 = 60 := by decide +kernel
theorem d_M_drinks_26 : dI prog_8_method_26_code 26 .idiv 1 27 := by decide +kernel
theorem d_M_drinks_27 : decode prog_8_method_26_code 27 = .ok (.ireturn, 1) := by decide +kernel
theorem d_M_canDo_0 : dI prog_8_method_27_code 0 (.aload_n 0) 1 1 := by decide +kernel
theorem d_M_canDo_1 : dI prog_8_method_27_code 1 (.invokevirtual 81) 3 4 := by decide +kernel
theorem d_M_canDo_4 : dJ prog_8_method_27_code 4 (.ifCond .ne 22) 22 7 26 := by decide +kernel
theorem d_M_canDo_7 : dI prog_8_method_27_code 7 (.aload_n 0) 1 8 := by decide +kernel
theorem d_M_canDo_8 : dI prog_8_method_27_code 8 (.iload_n 1) 1 9 := by decide +kernel
theorem d_M_canDo_9 : dI prog_8_method_27_code 9 (.invokevirtual 98) 3 12 := by decide +kernel
theorem d_M_canDo_12 : dI prog_8_method_27_code 12 (.aload_n 0) 1 13 := by decide +kernel
theorem d_M_canDo_13 : dI prog_8_method_27_code 13 (.getfield 7) 3 16 := by decide +kernel
theorem d_M_canDo_16 : dI prog_8_method_27_code 16 (.bipush 6) 2 18 ∧ (Int8.ofInt 6).toInt32 = 6 := by decide +kernel
theorem d_M_canDo_18 : dI prog_8_method_27_code 18 .iaload 1 19 := by decide +kernel
theorem d_M_canDo_19 : dJ prog_8_method_27_code 19 (.if_icmp .gt 7) 7 22 26 := by decide +kernel
theorem d_M_canDo_22 : dI prog_8_method_27_code 22 (.iconst 1) 1 23 ∧ Int32.ofInt 1 = 1 := by decide +kernel
theorem d_M_canDo_23 : dJ prog_8_method_27_code 23 (.goto 4) 4 26 27 := by decide +kernel
theorem d_M_canDo_26 : dI prog_8_method_27_code 26 (.iconst 0) 1 27 ∧ Int32.ofInt 0 = 0 := by decide +kernel
theorem d_M_canDo_27 : decode prog_8_method_27_code 27 = .ok (.ireturn, 1) := by decide +kernel
theorem d_M_pushes_0 : dI prog_8_method_28_code 0 (.iconst 1) 1 1 ∧ Int32.ofInt 1 = 1 := by decide +kernel
theorem d_M_pushes_1 : dI prog_8_method_28_code 1 (.istore 6) 2 3 := by decide +kernel
theorem d_M_pushes_3 : dI prog_8_method_28_code 3 (.iconst 0) 1 4 ∧ Int32.ofInt 0 = 0 := by decide +kernel
theorem d_M_pushes_4 : dI prog_8_method_28_code 4 (.istore 7) 2 6 := by decide +kernel
theorem d_M_pushes_6 : dI prog_8_method_28_code 6 (.iload 7) 2 8 := by decide +kernel
theorem d_M_pushes_8 : dI prog_8_method_28_code 8 (.iload_n 1) 1 9 := by decide +kernel
theorem d_M_pushes_9 : dJ prog_8_method_28_code 9 (.if_icmp .ge 149) 149 12 158 := by decide +kernel
theorem d_M_pushes_12 : dI prog_8_method_28_code 12 (.iload 6) 2 14 := by decide +kernel
theorem d_M_pushes_14 : dJ prog_8_method_28_code 14 (.ifCond .eq 144) 144 17 158 := by decide +kernel
theorem d_M_pushes_17 : dI prog_8_method_28_code 17 (.aload_n 0) 1 18 := by decide +kernel
theorem d_M_pushes_18 : dI prog_8_method_28_code 18 (.invokevirtual 81) 3 21 := by decide +kernel
theorem d_M_pushes_21 : dJ prog_8_method_28_code 21 (.ifCond .ne 137) 137 24 158 := by decide +kernel
theorem d_M_pushes_24 : dI prog_8_method_28_code 24 (.aload_n 0) 1 25 := by decide +kernel
theorem d_M_pushes_25 : dI prog_8_method_28_code 25 (.getfield 7) 3 28 := by decide +kernel
theorem d_M_pushes_28 : dI prog_8_method_28_code 28 (.iconst 0) 1 29 ∧ Int32.ofInt 0 = 0 := by decide +kernel
theorem d_M_pushes_29 : dI prog_8_method_28_code 29 .iaload 1 30 := by decide +kernel
theorem d_M_pushes_30 : dI prog_8_method_28_code 30 (.istore 8) 2 32 := by decide +kernel
theorem d_M_pushes_32 : dI prog_8_method_28_code 32 (.aload_n 0) 1 33 := by decide +kernel
theorem d_M_pushes_33 : dI prog_8_method_28_code 33 (.iload 8) 2 35 := by decide +kernel
theorem d_M_pushes_35 : dI prog_8_method_28_code 35 (.invokevirtual 65) 3 38 := by decide +kernel
theorem d_M_pushes_38 : dI prog_8_method_28_code 38 (.iload 8) 2 40 := by decide +kernel
theorem d_M_pushes_40 : dI prog_8_method_28_code 40 (.iload_n 3) 1 41 := by decide +kernel
theorem d_M_pushes_41 : dJ prog_8_method_28_code 41 (.if_icmp .lt 17) 17 44 58 := by decide +kernel
theorem d_M_pushes_44 : dI prog_8_method_28_code 44 (.iload 8) 2 46 := by decide +kernel
theorem d_M_pushes_46 : dI prog_8_method_28_code 46 (.iload_n 3) 1 47 := by decide +kernel
theorem d_M_pushes_47 : dI prog_8_method_28_code 47 (.iload 4) 2 49 := by decide +kernel
theorem d_M_pushes_49 : dI prog_8_method_28_code 49 .iadd 1 50 := by decide +kernel
theorem d_M_pushes_50 : dJ prog_8_method_28_code 50 (.if_icmp .ge 8) 8 53 58 := by decide +kernel
theorem d_M_pushes_53 : dI prog_8_method_28_code 53 (.bipush 30) 2 55 ∧ (Int8.ofInt 30).toInt32 = 30 := by decide +kernel
theorem d_M_pushes_55 : dJ prog_8_method_28_code 55 (.goto 4) 4 58 59 := by decide +kernel
theorem d_M_pushes_58 : dI prog_8_method_28_code 58 (.iconst 0) 1 59 ∧ Int32.ofInt 0 = 0 := by decide +kernel
theorem d_M_pushes_59 : dI prog_8_method_28_code 59 .iadd 1 60 := by decide +kernel
theorem d_M_pushes_60 : dI prog_8_method_28_code 60 (.istore 9) 2 62 := by decide +kernel
theorem d_M_pushes_62 : dI prog_8_method_28_code 62 (.aload_n 0) 1 63 := by decide +kernel
theorem d_M_pushes_63 : dI prog_8_method_28_code 63 (.getfield 7) 3 66 := by decide +kernel
theorem d_M_pushes_66 : dI prog_8_method_28_code 66 (.bipush 9) 2 68 ∧ (Int8.ofInt 9).toInt32 = 9 := by decide +kernel
theorem d_M_pushes_68 : dI prog_8_method_28_code 68 .dup2 1 69 := by decide +kernel
theorem d_M_pushes_69 : dI prog_8_method_28_code 69 .iaload 1 70 := by decide +kernel
theorem d_M_pushes_70 : dI prog_8_method_28_code 70 (.iconst 1) 1 71 ∧ Int32.ofInt 1 = 1 := by decide +kernel
theorem d_M_pushes_71 : dI prog_8_method_28_code 71 .iadd 1 72 := by decide +kernel
theorem d_M_pushes_72 : dI prog_8_method_28_code 72 .iastore 1 73 := by decide +kernel
theorem d_M_pushes_73 : dI prog_8_method_28_code 73 (.iload 9) 2 75 := by decide +kernel
theorem d_M_pushes_75 : dI prog_8_method_28_code 75 (.aload_n 0) 1 76 := by decide +kernel
theorem d_M_pushes_76 : dI prog_8_method_28_code 76 (.invokevirtual 78) 3 79 := by decide +kernel
theorem d_M_pushes_79 : dI prog_8_method_28_code 79 (.iload 5) 2 81 := by decide +kernel
theorem d_M_pushes_81 : dI prog_8_method_28_code 81 .isub 1 82 := by decide +kernel
theorem d_M_pushes_82 : dJ prog_8_method_28_code 82 (.if_icmp .lt 7) 7 85 89 := by decide +kernel
theorem d_M_pushes_85 : dI prog_8_method_28_code 85 (.iconst 1) 1 86 ∧ Int32.ofInt 1 = 1 := by decide +kernel
theorem d_M_pushes_86 : dJ prog_8_method_28_code 86 (.goto 4) 4 89 90 := by decide +kernel
theorem d_M_pushes_89 : dI prog_8_method_28_code 89 (.iconst 0) 1 90 ∧ Int32.ofInt 0 = 0 := by decide +kernel
theorem d_M_pushes_90 : dI prog_8_method_28_code 90 (.istore 6) 2 92 := by decide +kernel
theorem d_M_pushes_92 : dI prog_8_method_28_code 92 (.aload_n 0) 1 93 := by decide +kernel
theorem d_M_pushes_93 : dI prog_8_method_28_code 93 (.getfield 7) 3 96 := by decide +kernel
theorem d_M_pushes_96 : dI prog_8_method_28_code 96 (.iconst 0) 1 97 ∧ Int32.ofInt 0 = 0 := by decide +kernel
theorem d_M_pushes_97 : dI prog_8_method_28_code 97 .dup2 1 98 := by decide +kernel
theorem d_M_pushes_98 : dI prog_8_method_28_code 98 .iaload 1 99 := by decide +kernel
theorem d_M_pushes_99 : dI prog_8_method_28_code 99 (.iload 6) 2 101 := by decide +kernel
theorem d_M_pushes_101 : dJ prog_8_method_28_code 101 (.ifCond .eq 7) 7 104 108 := by decide +kernel
theorem d_M_pushes_104 : dI prog_8_method_28_code 104 (.iload_n 2) 1 105 := by decide +kernel
theorem d_M_pushes_105 : dJ prog_8_method_28_code 105 (.goto 4) 4 108 109 := by decide +kernel
theorem d_M_pushes_108 : dI prog_8_method_28_code 108 (.iconst 0) 1 109 ∧ Int32.ofInt 0 = 0 := by decide +kernel
theorem d_M_pushes_109 : dI prog_8_method_28_code 109 .iadd 1 110 := by decide +kernel
theorem d_M_pushes_110 : dI prog_8_method_28_code 110 .iastore 1 111 := by decide +kernel
theorem d_M_pushes_111 : dI prog_8_method_28_code 111 (.aload_n 0) 1 112 := by decide +kernel
theorem d_M_pushes_112 : dI prog_8_method_28_code 112 (.getfield 7) 3 115 := by decide +kernel
theorem d_M_pushes_115 : dI prog_8_method_28_code 115 (.iconst 1) 1 116 ∧ Int32.ofInt 1 = 1 := by decide +kernel
theorem d_M_pushes_116 : dI prog_8_method_28_code 116 (.iload 6) 2 118 := by decide +kernel
theorem d_M_pushes_118 : dJ prog_8_method_28_code 118 (.ifCond .eq 7) 7 121 125 := by decide +kernel
theorem d_M_pushes_121 : dI prog_8_method_28_code 121 (.iconst 0) 1 122 ∧ Int32.ofInt 0 = 0 := by decide +kernel
theorem d_M_pushes_122 : dJ prog_8_method_28_code 122 (.goto 29) 29 125 151 := by decide +kernel
theorem d_M_pushes_125 : dI prog_8_method_28_code 125 (.aload_n 0) 1 126 := by decide +kernel
theorem d_M_pushes_126 : dI prog_8_method_28_code 126 (.getfield 7) 3 129 := by decide +kernel
theorem d_M_pushes_129 : dI prog_8_method_28_code 129 (.iconst 1) 1 130 ∧ Int32.ofInt 1 = 1 := by decide +kernel
theorem d_M_pushes_130 : dI prog_8_method_28_code 130 .iaload 1 131 := by decide +kernel
theorem d_M_pushes_131 : dI prog_8_method_28_code 131 (.iconst 4) 1 132 ∧ Int32.ofInt 4 = 4 := by decide +kernel
theorem d_M_pushes_132 : dI prog_8_method_28_code 132 .iadd 1 133 := by decide +kernel
theorem d_M_pushes_133 : dI prog_8_method_28_code 133 (.bipush 99) 2 135 ∧ (Int8.ofInt 99).toInt32 = 99 := by decide +kernel
theorem d_M_pushes_135 : dJ prog_8_method_28_code 135 (.if_icmp .le 8) 8 138 143 := by decide +kernel
theorem d_M_pushes_138 : dI prog_8_method_28_code 138 (.bipush 99) 2 140 ∧ (Int8.ofInt 99).toInt32 = 99 := by decide +kernel
theorem d_M_pushes_140 : dJ prog_8_method_28_code 140 (.goto 11) 11 143 151 := by decide +kernel
theorem d_M_pushes_143 : dI prog_8_method_28_code 143 (.aload_n 0) 1 144 := by decide +kernel
theorem d_M_pushes_144 : dI prog_8_method_28_code 144 (.getfield 7) 3 147 := by decide +kernel
theorem d_M_pushes_147 : dI prog_8_method_28_code 147 (.iconst 1) 1 148 ∧ Int32.ofInt 1 = 1 := by decide +kernel
theorem d_M_pushes_148 : dI prog_8_method_28_code 148 .iaload 1 149 := by decide +kernel
theorem d_M_pushes_149 : dI prog_8_method_28_code 149 (.iconst 4) 1 150 ∧ Int32.ofInt 4 = 4 := by decide +kernel
theorem d_M_pushes_150 : dI prog_8_method_28_code 150 .iadd 1 151 := by decide +kernel
theorem d_M_pushes_151 : dI prog_8_method_28_code 151 .iastore 1 152 := by decide +kernel
theorem d_M_pushes_152 : dI prog_8_method_28_code 152 (.iinc 7 1) 3 155 ∧ Int32.ofInt 1 = 1 := by decide +kernel
theorem d_M_pushes_155 : dJ prog_8_method_28_code 155 (.goto (-149)) (-149) 158 6 := by decide +kernel
theorem d_M_pushes_158 : decode prog_8_method_28_code 158 = .ok (.return_, 1) := by decide +kernel
theorem d_M_digs_0 : dI prog_8_method_29_code 0 (.aload_n 0) 1 1 := by decide +kernel
theorem d_M_digs_1 : dI prog_8_method_29_code 1 (.getfield 7) 3 4 := by decide +kernel
theorem d_M_digs_4 : dI prog_8_method_29_code 4 (.iconst 1) 1 5 ∧ Int32.ofInt 1 = 1 := by decide +kernel
theorem d_M_digs_5 : dI prog_8_method_29_code 5 .iaload 1 6 := by decide +kernel
theorem d_M_digs_6 : dI prog_8_method_29_code 6 (.bipush 10) 2 8 ∧ (Int8.ofInt 10).toInt32 = 10 := by decide +kernel
theorem d_M_digs_8 : dI prog_8_method_29_code 8 (.aload_n 0) 1 9 := by decide +kernel
theorem d_M_digs_9 : dI prog_8_method_29_code 9 (.getfield 7) 3 12 := by decide +kernel
theorem d_M_digs_12 : dI prog_8_method_29_code 12 (.iconst 5) 1 13 ∧ Int32.ofInt 5 = 5 := by decide +kernel
theorem d_M_digs_13 : dI prog_8_method_29_code 13 .iaload 1 14 := by decide +kernel
theorem d_M_digs_14 : dI prog_8_method_29_code 14 .imul 1 15 := by decide +kernel
theorem d_M_digs_15 : dI prog_8_method_29_code 15 .isub 1 16 := by decide +kernel
theorem d_M_digs_16 : dI prog_8_method_29_code 16 (.istore_n 1) 1 17 := by decide +kernel
theorem d_M_digs_17 : dI prog_8_method_29_code 17 (.aload_n 0) 1 18 := by decide +kernel
theorem d_M_digs_18 : dI prog_8_method_29_code 18 (.getfield 7) 3 21 := by decide +kernel
theorem d_M_digs_21 : dI prog_8_method_29_code 21 (.iconst 1) 1 22 ∧ Int32.ofInt 1 = 1 := by decide +kernel
theorem d_M_digs_22 : dI prog_8_method_29_code 22 (.iload_n 1) 1 23 := by decide +kernel
theorem d_M_digs_23 : dJ prog_8_method_29_code 23 (.ifCond .ge 7) 7 26 30 := by decide +kernel
theorem d_M_digs_26 : dI prog_8_method_29_code 26 (.iconst 0) 1 27 ∧ Int32.ofInt 0 = 0 := by decide +kernel
theorem d_M_digs_27 : dJ prog_8_method_29_code 27 (.goto 4) 4 30 31 := by decide +kernel
theorem d_M_digs_30 : dI prog_8_method_29_code 30 (.iload_n 1) 1 31 := by decide +kernel
theorem d_M_digs_31 : dI prog_8_method_29_code 31 .iastore 1 32 := by decide +kernel
theorem d_M_digs_32 : decode prog_8_method_29_code 32 = .ok (.return_, 1) := by decide +kernel
theorem d_M_does_0 : dI prog_8_method_30_code 0 (.aload_n 0) 1 1 := by decide +kernel
theorem d_M_does_1 : dI prog_8_method_30_code 1 (.iload_n 1) 1 2 := by decide +kernel
theorem d_M_does_2 : dI prog_8_method_30_code 2 (.invokevirtual 98) 3 5 := by decide +kernel
theorem d_M_does_5 : dI prog_8_method_30_code 5 (.istore_n 2) 1 6 := by decide +kernel
theorem d_M_does_6 : dI prog_8_method_30_code 6 (.aload_n 0) 1 7 := by decide +kernel
theorem d_M_does_7 : dI prog_8_method_30_code 7 (.getfield 7) 3 10 := by decide +kernel
theorem d_M_does_10 : dI prog_8_method_30_code 10 (.bipush 6) 2 12 ∧ (Int8.ofInt 6).toInt32 = 6 := by decide +kernel
theorem d_M_does_12 : dI prog_8_method_30_code 12 .dup2 1 13 := by decide +kernel
theorem d_M_does_13 : dI prog_8_method_30_code 13 .iaload 1 14 := by decide +kernel
theorem d_M_does_14 : dI prog_8_method_30_code 14 (.iload_n 2) 1 15 := by decide +kernel
theorem d_M_does_15 : dI prog_8_method_30_code 15 .isub 1 16 := by decide +kernel
theorem d_M_does_16 : dI prog_8_method_30_code 16 .iastore 1 17 := by decide +kernel
theorem d_M_does_17 : dI prog_8_method_30_code 17 (.aload_n 0) 1 18 := by decide +kernel
theorem d_M_does_18 : dI prog_8_method_30_code 18 (.getfield 7) 3 21 := by decide +kernel
theorem d_M_does_21 : dI prog_8_method_30_code 21 (.bipush 8) 2 23 ∧ (Int8.ofInt 8).toInt32 = 8 := by decide +kernel
theorem d_M_does_23 : dI prog_8_method_30_code 23 .dup2 1 24 := by decide +kernel
theorem d_M_does_24 : dI prog_8_method_30_code 24 .iaload 1 25 := by decide +kernel
theorem d_M_does_25 : dI prog_8_method_30_code 25 (.iload_n 2) 1 26 := by decide +kernel
theorem d_M_does_26 : dI prog_8_method_30_code 26 .iadd 1 27 := by decide +kernel
theorem d_M_does_27 : dI prog_8_method_30_code 27 .iastore 1 28 := by decide +kernel
theorem d_M_does_28 : dI prog_8_method_30_code 28 (.aload_n 0) 1 29 := by decide +kernel
theorem d_M_does_29 : dI prog_8_method_30_code 29 (.getfield 7) 3 32 := by decide +kernel
theorem d_M_does_32 : dI prog_8_method_30_code 32 (.bipush 7) 2 34 ∧ (Int8.ofInt 7).toInt32 = 7 := by decide +kernel
theorem d_M_does_34 : dI prog_8_method_30_code 34 .dup2 1 35 := by decide +kernel
theorem d_M_does_35 : dI prog_8_method_30_code 35 .iaload 1 36 := by decide +kernel
theorem d_M_does_36 : dI prog_8_method_30_code 36 (.aload_n 0) 1 37 := by decide +kernel
theorem d_M_does_37 : dI prog_8_method_30_code 37 (.iload_n 1) 1 38 := by decide +kernel
theorem d_M_does_38 : dI prog_8_method_30_code 38 (.invokevirtual 95) 3 41 := by decide +kernel
theorem d_M_does_41 : dI prog_8_method_30_code 41 .iadd 1 42 := by decide +kernel
theorem d_M_does_42 : dI prog_8_method_30_code 42 .iastore 1 43 := by decide +kernel
theorem d_M_does_43 : dI prog_8_method_30_code 43 (.aload_n 0) 1 44 := by decide +kernel
theorem d_M_does_44 : dI prog_8_method_30_code 44 (.getfield 7) 3 47 := by decide +kernel
theorem d_M_does_47 : dI prog_8_method_30_code 47 (.iconst 0) 1 48 ∧ Int32.ofInt 0 = 0 := by decide +kernel
theorem d_M_does_48 : dI prog_8_method_30_code 48 .iaload 1 49 := by decide +kernel
theorem d_M_does_49 : dI prog_8_method_30_code 49 (.istore_n 3) 1 50 := by decide +kernel
theorem d_M_does_50 : dI prog_8_method_30_code 50 (.aload_n 0) 1 51 := by decide +kernel
theorem d_M_does_51 : dI prog_8_method_30_code 51 (.getfield 7) 3 54 := by decide +kernel
theorem d_M_does_54 : dI prog_8_method_30_code 54 (.iconst 4) 1 55 ∧ Int32.ofInt 4 = 4 := by decide +kernel
theorem d_M_does_55 : dI prog_8_method_30_code 55 .iaload 1 56 := by decide +kernel
theorem d_M_does_56 : dI prog_8_method_30_code 56 (.istore 4) 2 58 := by decide +kernel
theorem d_M_does_58 : dI prog_8_method_30_code 58 (.iload_n 1) 1 59 := by decide +kernel
theorem d_M_does_59 : decode prog_8_method_30_code 59 = .ok (.tableswitch 196 1 7 #[41, 57, 97, 139, 57, 181, 193], 41) := by decide +kernel
theorem d_M_does_100 : dI prog_8_method_30_code 100 (.aload_n 0) 1 101 := by decide +kernel
theorem d_M_does_101 : dI prog_8_method_30_code 101 (.invokevirtual 101) 3 104 := by decide +kernel
theorem d_M_does_104 : dI prog_8_method_30_code 104 (.aload_n 0) 1 105 := by decide +kernel
theorem d_M_does_105 : dI prog_8_method_30_code 105 (.iconst 3) 1 106 ∧ Int32.ofInt 3 = 3 := by decide +kernel
theorem d_M_does_106 : dI prog_8_method_30_code 106 (.iconst 1) 1 107 ∧ Int32.ofInt 1 = 1 := by decide +kernel
theorem d_M_does_107 : dI prog_8_method_30_code 107 (.iconst 0) 1 108 ∧ Int32.ofInt 0 = 0 := by decide +kernel
theorem d_M_does_108 : dI prog_8_method_30_code 108 (.iconst 0) 1 109 ∧ Int32.ofInt 0 = 0 := by decide +kernel
theorem d_M_does_109 : dI prog_8_method_30_code 109 (.iconst 0) 1 110 ∧ Int32.ofInt 0 = 0 := by decide +kernel
theorem d_M_does_110 : dI prog_8_method_30_code 110 (.invokevirtual 104) 3 113 := by decide +kernel
theorem d_M_does_113 : dJ prog_8_method_30_code 113 (.goto 151) 151 116 264 := by decide +kernel
theorem d_M_does_116 : dI prog_8_method_30_code 116 (.aload_n 0) 1 117 := by decide +kernel
theorem d_M_does_117 : dI prog_8_method_30_code 117 (.invokevirtual 101) 3 120 := by decide +kernel
theorem d_M_does_120 : dI prog_8_method_30_code 120 (.aload_n 0) 1 121 := by decide +kernel
theorem d_M_does_121 : dI prog_8_method_30_code 121 (.iload 4) 2 123 := by decide +kernel
theorem d_M_does_123 : dI prog_8_method_30_code 123 (.iconst 2) 1 124 ∧ Int32.ofInt 2 = 2 := by decide +kernel
theorem d_M_does_124 : dJ prog_8_method_30_code 124 (.if_icmp .le 10) 10 127 134 := by decide +kernel
theorem d_M_does_127 : dI prog_8_method_30_code 127 (.iload 4) 2 129 := by decide +kernel
theorem d_M_does_129 : dI prog_8_method_30_code 129 (.iconst 1) 1 130 ∧ Int32.ofInt 1 = 1 := by decide +kernel
theorem d_M_does_130 : dI prog_8_method_30_code 130 .iadd 1 131 := by decide +kernel
theorem d_M_does_131 : dJ prog_8_method_30_code 131 (.goto 4) 4 134 135 := by decide +kernel
theorem d_M_does_134 : dI prog_8_method_30_code 134 (.iconst 3) 1 135 ∧ Int32.ofInt 3 = 3 := by decide +kernel
theorem d_M_does_135 : dI prog_8_method_30_code 135 (.iconst 1) 1 136 ∧ Int32.ofInt 1 = 1 := by decide +kernel
theorem d_M_does_136 : dI prog_8_method_30_code 136 (.iload_n 3) 1 137 := by decide +kernel
theorem d_M_does_137 : dI prog_8_method_30_code 137 (.iload 4) 2 139 := by decide +kernel
theorem d_M_does_139 : dI prog_8_method_30_code 139 (.iload_n 1) 1 140 := by decide +kernel
theorem d_M_does_140 : dI prog_8_method_30_code 140 (.iconst 5) 1 141 ∧ Int32.ofInt 5 = 5 := by decide +kernel
theorem d_M_does_141 : dJ prog_8_method_30_code 141 (.if_icmp .ne 8) 8 144 149 := by decide +kernel
theorem d_M_does_144 : dI prog_8_method_30_code 144 (.bipush 15) 2 146 ∧ (Int8.ofInt 15).toInt32 = 15 := by decide +kernel
theorem d_M_does_146 : dJ prog_8_method_30_code 146 (.goto 4) 4 149 150 := by decide +kernel
theorem d_M_does_149 : dI prog_8_method_30_code 149 (.iconst 0) 1 150 ∧ Int32.ofInt 0 = 0 := by decide +kernel
theorem d_M_does_150 : dI prog_8_method_30_code 150 (.invokevirtual 104) 3 153 := by decide +kernel
theorem d_M_does_153 : dJ prog_8_method_30_code 153 (.goto 111) 111 156 264 := by decide +kernel
theorem d_M_does_156 : dI prog_8_method_30_code 156 (.aload_n 0) 1 157 := by decide +kernel
theorem d_M_does_157 : dI prog_8_method_30_code 157 (.getfield 7) 3 160 := by decide +kernel
theorem d_M_does_160 : dI prog_8_method_30_code 160 (.iconst 2) 1 161 ∧ Int32.ofInt 2 = 2 := by decide +kernel
theorem d_M_does_161 : dI prog_8_method_30_code 161 (.aload_n 0) 1 162 := by decide +kernel
theorem d_M_does_162 : dI prog_8_method_30_code 162 (.getfield 7) 3 165 := by decide +kernel
theorem d_M_does_165 : dI prog_8_method_30_code 165 (.iconst 2) 1 166 ∧ Int32.ofInt 2 = 2 := by decide +kernel
theorem d_M_does_166 : dI prog_8_method_30_code 166 .iaload 1 167 := by decide +kernel
theorem d_M_does_167 : dI prog_8_method_30_code 167 (.bipush 10) 2 169 ∧ (Int8.ofInt 10).toInt32 = 10 := by decide +kernel
theorem d_M_does_169 : dJ prog_8_method_30_code 169 (.if_icmp .ge 7) 7 172 176 := by decide +kernel
theorem d_M_does_172 : dI prog_8_method_30_code 172 (.iconst 0) 1 173 ∧ Int32.ofInt 0 = 0 := by decide +kernel
theorem d_M_does_173 : dJ prog_8_method_30_code 173 (.goto 12) 12 176 185 := by decide +kernel
theorem d_M_does_176 : dI prog_8_method_30_code 176 (.aload_n 0) 1 177 := by decide +kernel
theorem d_M_does_177 : dI prog_8_method_30_code 177 (.getfield 7) 3 180 := by decide +kernel
theorem d_M_does_180 : dI prog_8_method_30_code 180 (.iconst 2) 1 181 ∧ Int32.ofInt 2 = 2 := by decide +kernel
theorem d_M_does_181 : dI prog_8_method_30_code 181 .iaload 1 182 := by decide +kernel
theorem d_M_does_182 : dI prog_8_method_30_code 182 (.bipush 10) 2 184 ∧ (Int8.ofInt 10).toInt32 = 10 := by decide +kernel
theorem d_M_does_184 : dI prog_8_method_30_code 184 .isub 1 185 := by decide +kernel
theorem d_M_does_185 : dI prog_8_method_30_code 185 .iastore 1 186 := by decide +kernel
theorem d_M_does_186 : dI prog_8_method_30_code 186 (.aload_n 0) 1 187 := by decide +kernel
theorem d_M_does_187 : dI prog_8_method_30_code 187 (.iconst 3) 1 188 ∧ Int32.ofInt 3 = 3 := by decide +kernel
theorem d_M_does_188 : dI prog_8_method_30_code 188 (.iconst 1) 1 189 ∧ Int32.ofInt 1 = 1 := by decide +kernel
theorem d_M_does_189 : dI prog_8_method_30_code 189 (.iconst 0) 1 190 ∧ Int32.ofInt 0 = 0 := by decide +kernel
theorem d_M_does_190 : dI prog_8_method_30_code 190 (.iconst 0) 1 191 ∧ Int32.ofInt 0 = 0 := by decide +kernel
theorem d_M_does_191 : dI prog_8_method_30_code 191 (.iconst 0) 1 192 ∧ Int32.ofInt 0 = 0 := by decide +kernel
theorem d_M_does_192 : dI prog_8_method_30_code 192 (.invokevirtual 104) 3 195 := by decide +kernel
theorem d_M_does_195 : dJ prog_8_method_30_code 195 (.goto 69) 69 198 264 := by decide +kernel
theorem d_M_does_198 : dI prog_8_method_30_code 198 (.aload_n 0) 1 199 := by decide +kernel
theorem d_M_does_199 : dI prog_8_method_30_code 199 (.getfield 7) 3 202 := by decide +kernel
theorem d_M_does_202 : dI prog_8_method_30_code 202 (.iconst 3) 1 203 ∧ Int32.ofInt 3 = 3 := by decide +kernel
theorem d_M_does_203 : dI prog_8_method_30_code 203 (.aload_n 0) 1 204 := by decide +kernel
theorem d_M_does_204 : dI prog_8_method_30_code 204 (.getfield 7) 3 207 := by decide +kernel
theorem d_M_does_207 : dI prog_8_method_30_code 207 (.iconst 3) 1 208 ∧ Int32.ofInt 3 = 3 := by decide +kernel
theorem d_M_does_208 : dI prog_8_method_30_code 208 .iaload 1 209 := by decide +kernel
theorem d_M_does_209 : dI prog_8_method_30_code 209 (.bipush 6) 2 211 ∧ (Int8.ofInt 6).toInt32 = 6 := by decide +kernel
theorem d_M_does_211 : dJ prog_8_method_30_code 211 (.if_icmp .le 8) 8 214 219 := by decide +kernel
theorem d_M_does_214 : dI prog_8_method_30_code 214 (.bipush 9) 2 216 ∧ (Int8.ofInt 9).toInt32 = 9 := by decide +kernel
theorem d_M_does_216 : dJ prog_8_method_30_code 216 (.goto 11) 11 219 227 := by decide +kernel
theorem d_M_does_219 : dI prog_8_method_30_code 219 (.aload_n 0) 1 220 := by decide +kernel
theorem d_M_does_220 : dI prog_8_method_30_code 220 (.getfield 7) 3 223 := by decide +kernel
theorem d_M_does_223 : dI prog_8_method_30_code 223 (.iconst 3) 1 224 ∧ Int32.ofInt 3 = 3 := by decide +kernel
theorem d_M_does_224 : dI prog_8_method_30_code 224 .iaload 1 225 := by decide +kernel
theorem d_M_does_225 : dI prog_8_method_30_code 225 (.iconst 3) 1 226 ∧ Int32.ofInt 3 = 3 := by decide +kernel
theorem d_M_does_226 : dI prog_8_method_30_code 226 .iadd 1 227 := by decide +kernel
theorem d_M_does_227 : dI prog_8_method_30_code 227 .iastore 1 228 := by decide +kernel
theorem d_M_does_228 : dI prog_8_method_30_code 228 (.aload_n 0) 1 229 := by decide +kernel
theorem d_M_does_229 : dI prog_8_method_30_code 229 (.iconst 3) 1 230 ∧ Int32.ofInt 3 = 3 := by decide +kernel
theorem d_M_does_230 : dI prog_8_method_30_code 230 (.iconst 1) 1 231 ∧ Int32.ofInt 1 = 1 := by decide +kernel
theorem d_M_does_231 : dI prog_8_method_30_code 231 (.iconst 0) 1 232 ∧ Int32.ofInt 0 = 0 := by decide +kernel
theorem d_M_does_232 : dI prog_8_method_30_code 232 (.iconst 0) 1 233 ∧ Int32.ofInt 0 = 0 := by decide +kernel
theorem d_M_does_233 : dI prog_8_method_30_code 233 (.iconst 0) 1 234 ∧ Int32.ofInt 0 = 0 := by decide +kernel
theorem d_M_does_234 : dI prog_8_method_30_code 234 (.invokevirtual 104) 3 237 := by decide +kernel
theorem d_M_does_237 : dJ prog_8_method_30_code 237 (.goto 27) 27 240 264 := by decide +kernel
theorem d_M_does_240 : dI prog_8_method_30_code 240 (.aload_n 0) 1 241 := by decide +kernel
theorem d_M_does_241 : dI prog_8_method_30_code 241 (.iconst 3) 1 242 ∧ Int32.ofInt 3 = 3 := by decide +kernel
theorem d_M_does_242 : dI prog_8_method_30_code 242 (.iconst (-1)) 1 243 ∧ Int32.ofInt (-1) = (-1) := by decide +kernel
theorem d_M_does_243 : dI prog_8_method_30_code 243 (.iconst 0) 1 244 ∧ Int32.ofInt 0 = 0 := by decide +kernel
theorem d_M_does_244 : dI prog_8_method_30_code 244 (.iconst 0) 1 245 ∧ Int32.ofInt 0 = 0 := by decide +kernel
theorem d_M_does_245 : dI prog_8_method_30_code 245 (.iconst 0) 1 246 ∧ Int32.ofInt 0 = 0 := by decide +kernel
theorem d_M_does_246 : dI prog_8_method_30_code 246 (.invokevirtual 104) 3 249 := by decide +kernel
theorem d_M_does_249 : dJ prog_8_method_30_code 249 (.goto 15) 15 252 264 := by decide +kernel
theorem d_M_does_252 : dJ prog_8_method_30_code 252 (.goto 12) 12 255 264 := by decide +kernel
theorem d_M_does_255 : dI prog_8_method_30_code 255 (.aload_n 0) 1 256 := by decide +kernel
theorem d_M_does_256 : dI prog_8_method_30_code 256 (.iconst 3) 1 257 ∧ Int32.ofInt 3 = 3 := by decide +kernel
theorem d_M_does_257 : dI prog_8_method_30_code 257 (.iconst 1) 1 258 ∧ Int32.ofInt 1 = 1 := by decide +kernel
theorem d_M_does_258 : dI prog_8_method_30_code 258 (.iconst 0) 1 259 ∧ Int32.ofInt 0 = 0 := by decide +kernel
theorem d_M_does_259 : dI prog_8_method_30_code 259 (.iconst 0) 1 260 ∧ Int32.ofInt 0 = 0 := by decide +kernel
theorem d_M_does_260 : dI prog_8_method_30_code 260 (.iconst 0) 1 261 ∧ Int32.ofInt 0 = 0 := by decide +kernel
theorem d_M_does_261 : dI prog_8_method_30_code 261 (.invokevirtual 104) 3 264 := by decide +kernel
theorem d_M_does_264 : decode prog_8_method_30_code 264 = .ok (.return_, 1) := by decide +kernel
theorem d_M_isSlot_0 : dI prog_8_method_31_code 0 (.iload_n 0) 1 1 := by decide +kernel
theorem d_M_isSlot_1 : dI prog_8_method_31_code 1 (.iconst 0) 1 2 ∧ Int32.ofInt 0 = 0 := by decide +kernel
theorem d_M_isSlot_2 : dI prog_8_method_31_code 2 (.bipush 9) 2 4 ∧ (Int8.ofInt 9).toInt32 = 9 := by decide +kernel
theorem d_M_isSlot_4 : dI prog_8_method_31_code 4 (.invokestatic 45) 3 7 := by decide +kernel
theorem d_M_isSlot_7 : decode prog_8_method_31_code 7 = .ok (.ireturn, 1) := by decide +kernel
theorem d_M_isKind_0 : dI prog_8_method_32_code 0 (.iload_n 0) 1 1 := by decide +kernel
theorem d_M_isKind_1 : dI prog_8_method_32_code 1 (.iconst 0) 1 2 ∧ Int32.ofInt 0 = 0 := by decide +kernel
theorem d_M_isKind_2 : dI prog_8_method_32_code 2 (.bipush 7) 2 4 ∧ (Int8.ofInt 7).toInt32 = 7 := by decide +kernel
theorem d_M_isKind_4 : dI prog_8_method_32_code 4 (.invokestatic 45) 3 7 := by decide +kernel
theorem d_M_isKind_7 : decode prog_8_method_32_code 7 = .ok (.ireturn, 1) := by decide +kernel
theorem d_M_effort_0 : dI prog_8_method_33_code 0 (.iload_n 1) 1 1 := by decide +kernel
theorem d_M_effort_1 : dI prog_8_method_33_code 1 (.invokestatic 108) 3 4 := by decide +kernel
theorem d_M_effort_4 : dJ prog_8_method_33_code 4 (.ifCond .eq 15) 15 7 19 := by decide +kernel
theorem d_M_effort_7 : dI prog_8_method_33_code 7 (.iload_n 2) 1 8 := by decide +kernel
theorem d_M_effort_8 : dI prog_8_method_33_code 8 (.iconst (-1)) 1 9 ∧ Int32.ofInt (-1) = (-1) := by decide +kernel
theorem d_M_effort_9 : dJ prog_8_method_33_code 9 (.if_icmp .eq 16) 16 12 25 := by decide +kernel
theorem d_M_effort_12 : dI prog_8_method_33_code 12 (.iload_n 2) 1 13 := by decide +kernel
theorem d_M_effort_13 : dI prog_8_method_33_code 13 (.invokestatic 111) 3 16 := by decide +kernel
theorem d_M_effort_16 : dJ prog_8_method_33_code 16 (.ifCond .ne 9) 9 19 25 := by decide +kernel
theorem d_M_effort_19 : dI prog_8_method_33_code 19 (.aload_n 0) 1 20 := by decide +kernel
theorem d_M_effort_20 : dI prog_8_method_33_code 20 (.iconst 0) 1 21 ∧ Int32.ofInt 0 = 0 := by decide +kernel
theorem d_M_effort_21 : dI prog_8_method_33_code 21 (.invokevirtual 61) 3 24 := by decide +kernel
theorem d_M_effort_24 : decode prog_8_method_33_code 24 = .ok (.ireturn, 1) := by decide +kernel
theorem d_M_effort_25 : dI prog_8_method_33_code 25 (.aload_n 0) 1 26 := by decide +kernel
theorem d_M_effort_26 : dI prog_8_method_33_code 26 (.getfield 7) 3 29 := by decide +kernel
theorem d_M_effort_29 : dI prog_8_method_33_code 29 (.bipush 52) 2 31 ∧ (Int8.ofInt 52).toInt32 = 52 := by decide +kernel
theorem d_M_effort_31 : dI prog_8_method_33_code 31 (.iload_n 1) 1 32 := by decide +kernel
theorem d_M_effort_32 : dI prog_8_method_33_code 32 .iadd 1 33 := by decide +kernel
theorem d_M_effort_33 : dI prog_8_method_33_code 33 (.iload_n 2) 1 34 := by decide +kernel
theorem d_M_effort_34 : dI prog_8_method_33_code 34 .iastore 1 35 := by decide +kernel
theorem d_M_effort_35 : dI prog_8_method_33_code 35 (.iconst 1) 1 36 ∧ Int32.ofInt 1 = 1 := by decide +kernel
theorem d_M_effort_36 : decode prog_8_method_33_code 36 = .ok (.ireturn, 1) := by decide +kernel
theorem d_M_effortOf_0 : dI prog_8_method_34_code 0 (.iload_n 1) 1 1 := by decide +kernel
theorem d_M_effortOf_1 : dI prog_8_method_34_code 1 (.invokestatic 108) 3 4 := by decide +kernel
theorem d_M_effortOf_4 : dJ prog_8_method_34_code 4 (.ifCond .eq 12) 12 7 16 := by decide +kernel
theorem d_M_effortOf_7 : dI prog_8_method_34_code 7 (.iload_n 2) 1 8 := by decide +kernel
theorem d_M_effortOf_8 : dI prog_8_method_34_code 8 (.iconst 0) 1 9 ∧ Int32.ofInt 0 = 0 := by decide +kernel
theorem d_M_effortOf_9 : dI prog_8_method_34_code 9 (.iconst 3) 1 10 ∧ Int32.ofInt 3 = 3 := by decide +kernel
theorem d_M_effortOf_10 : dI prog_8_method_34_code 10 (.invokestatic 45) 3 13 := by decide +kernel
theorem d_M_effortOf_13 : dJ prog_8_method_34_code 13 (.ifCond .ne 9) 9 16 22 := by decide +kernel
theorem d_M_effortOf_16 : dI prog_8_method_34_code 16 (.aload_n 0) 1 17 := by decide +kernel
theorem d_M_effortOf_17 : dI prog_8_method_34_code 17 (.iconst 0) 1 18 ∧ Int32.ofInt 0 = 0 := by decide +kernel
theorem d_M_effortOf_18 : dI prog_8_method_34_code 18 (.invokevirtual 61) 3 21 := by decide +kernel
theorem d_M_effortOf_21 : decode prog_8_method_34_code 21 = .ok (.ireturn, 1) := by decide +kernel
theorem d_M_effortOf_22 : dI prog_8_method_34_code 22 (.aload_n 0) 1 23 := by decide +kernel
theorem d_M_effortOf_23 : dI prog_8_method_34_code 23 (.getfield 7) 3 26 := by decide +kernel
theorem d_M_effortOf_26 : dI prog_8_method_34_code 26 (.bipush 52) 2 28 ∧ (Int8.ofInt 52).toInt32 = 52 := by decide +kernel
theorem d_M_effortOf_28 : dI prog_8_method_34_code 28 (.iload_n 1) 1 29 := by decide +kernel
theorem d_M_effortOf_29 : dI prog_8_method_34_code 29 .iadd 1 30 := by decide +kernel
theorem d_M_effortOf_30 : dI prog_8_method_34_code 30 .iaload 1 31 := by decide +kernel
theorem d_M_effortOf_31 : dI prog_8_method_34_code 31 (.istore_n 3) 1 32 := by decide +kernel
theorem d_M_effortOf_32 : dI prog_8_method_34_code 32 (.iload_n 3) 1 33 := by decide +kernel
theorem d_M_effortOf_33 : dI prog_8_method_34_code 33 (.iconst (-1)) 1 34 ∧ Int32.ofInt (-1) = (-1) := by decide +kernel
theorem d_M_effortOf_34 : dJ prog_8_method_34_code 34 (.if_icmp .ne 9) 9 37 43 := by decide +kernel
theorem d_M_effortOf_37 : dI prog_8_method_34_code 37 (.aload_n 0) 1 38 := by decide +kernel
theorem d_M_effortOf_38 : dI prog_8_method_34_code 38 (.iconst 3) 1 39 ∧ Int32.ofInt 3 = 3 := by decide +kernel
theorem d_M_effortOf_39 : dI prog_8_method_34_code 39 (.invokevirtual 61) 3 42 := by decide +kernel
theorem d_M_effortOf_42 : decode prog_8_method_34_code 42 = .ok (.ireturn, 1) := by decide +kernel
theorem d_M_effortOf_43 : dI prog_8_method_34_code 43 (.iload_n 2) 1 44 := by decide +kernel
theorem d_M_effortOf_44 : dJ prog_8_method_34_code 44 (.ifCond .ne 7) 7 47 51 := by decide +kernel
theorem d_M_effortOf_47 : dI prog_8_method_34_code 47 (.iload_n 3) 1 48 := by decide +kernel
theorem d_M_effortOf_48 : dJ prog_8_method_34_code 48 (.goto 33) 33 51 81 := by decide +kernel
theorem d_M_effortOf_51 : dI prog_8_method_34_code 51 (.iload_n 2) 1 52 := by decide +kernel
theorem d_M_effortOf_52 : dI prog_8_method_34_code 52 (.iconst 1) 1 53 ∧ Int32.ofInt 1 = 1 := by decide +kernel
theorem d_M_effortOf_53 : dJ prog_8_method_34_code 53 (.if_icmp .ne 11) 11 56 64 := by decide +kernel
theorem d_M_effortOf_56 : dI prog_8_method_34_code 56 (.aload_n 0) 1 57 := by decide +kernel
theorem d_M_effortOf_57 : dI prog_8_method_34_code 57 (.iload_n 3) 1 58 := by decide +kernel
theorem d_M_effortOf_58 : dI prog_8_method_34_code 58 (.invokevirtual 95) 3 61 := by decide +kernel
theorem d_M_effortOf_61 : dJ prog_8_method_34_code 61 (.goto 20) 20 64 81 := by decide +kernel
theorem d_M_effortOf_64 : dI prog_8_method_34_code 64 (.iload_n 2) 1 65 := by decide +kernel
theorem d_M_effortOf_65 : dI prog_8_method_34_code 65 (.iconst 2) 1 66 ∧ Int32.ofInt 2 = 2 := by decide +kernel
theorem d_M_effortOf_66 : dJ prog_8_method_34_code 66 (.if_icmp .ne 10) 10 69 76 := by decide +kernel
theorem d_M_effortOf_69 : dI prog_8_method_34_code 69 (.iload_n 3) 1 70 := by decide +kernel
theorem d_M_effortOf_70 : dI prog_8_method_34_code 70 (.invokestatic 92) 3 73 := by decide +kernel
theorem d_M_effortOf_73 : dJ prog_8_method_34_code 73 (.goto 8) 8 76 81 := by decide +kernel
theorem d_M_effortOf_76 : dI prog_8_method_34_code 76 (.aload_n 0) 1 77 := by decide +kernel
theorem d_M_effortOf_77 : dI prog_8_method_34_code 77 (.iload_n 3) 1 78 := by decide +kernel
theorem d_M_effortOf_78 : dI prog_8_method_34_code 78 (.invokevirtual 98) 3 81 := by decide +kernel
theorem d_M_effortOf_81 : decode prog_8_method_34_code 81 = .ok (.ireturn, 1) := by decide +kernel
theorem d_M_go_0 : dI prog_8_method_35_code 0 (.iload_n 1) 1 1 := by decide +kernel
theorem d_M_go_1 : dI prog_8_method_35_code 1 (.invokestatic 108) 3 4 := by decide +kernel
theorem d_M_go_4 : dJ prog_8_method_35_code 4 (.ifCond .ne 9) 9 7 13 := by decide +kernel
theorem d_M_go_7 : dI prog_8_method_35_code 7 (.aload_n 0) 1 8 := by decide +kernel
theorem d_M_go_8 : dI prog_8_method_35_code 8 (.iconst 0) 1 9 ∧ Int32.ofInt 0 = 0 := by decide +kernel
theorem d_M_go_9 : dI prog_8_method_35_code 9 (.invokevirtual 61) 3 12 := by decide +kernel
theorem d_M_go_12 : decode prog_8_method_35_code 12 = .ok (.ireturn, 1) := by decide +kernel
theorem d_M_go_13 : dI prog_8_method_35_code 13 (.aload_n 0) 1 14 := by decide +kernel
theorem d_M_go_14 : dI prog_8_method_35_code 14 (.getfield 7) 3 17 := by decide +kernel
theorem d_M_go_17 : dI prog_8_method_35_code 17 (.bipush 52) 2 19 ∧ (Int8.ofInt 52).toInt32 = 52 := by decide +kernel
theorem d_M_go_19 : dI prog_8_method_35_code 19 (.iload_n 1) 1 20 := by decide +kernel
theorem d_M_go_20 : dI prog_8_method_35_code 20 .iadd 1 21 := by decide +kernel
theorem d_M_go_21 : dI prog_8_method_35_code 21 .iaload 1 22 := by decide +kernel
theorem d_M_go_22 : dI prog_8_method_35_code 22 (.istore_n 2) 1 23 := by decide +kernel
theorem d_M_go_23 : dI prog_8_method_35_code 23 (.iload_n 2) 1 24 := by decide +kernel
theorem d_M_go_24 : dI prog_8_method_35_code 24 (.iconst (-1)) 1 25 ∧ Int32.ofInt (-1) = (-1) := by decide +kernel
theorem d_M_go_25 : dJ prog_8_method_35_code 25 (.if_icmp .ne 9) 9 28 34 := by decide +kernel
theorem d_M_go_28 : dI prog_8_method_35_code 28 (.aload_n 0) 1 29 := by decide +kernel
theorem d_M_go_29 : dI prog_8_method_35_code 29 (.iconst 3) 1 30 ∧ Int32.ofInt 3 = 3 := by decide +kernel
theorem d_M_go_30 : dI prog_8_method_35_code 30 (.invokevirtual 61) 3 33 := by decide +kernel
theorem d_M_go_33 : decode prog_8_method_35_code 33 = .ok (.ireturn, 1) := by decide +kernel
theorem d_M_go_34 : dI prog_8_method_35_code 34 (.aload_n 0) 1 35 := by decide +kernel
theorem d_M_go_35 : dI prog_8_method_35_code 35 (.iload_n 2) 1 36 := by decide +kernel
theorem d_M_go_36 : dI prog_8_method_35_code 36 (.invokevirtual 114) 3 39 := by decide +kernel
theorem d_M_go_39 : dJ prog_8_method_35_code 39 (.ifCond .ne 9) 9 42 48 := by decide +kernel
theorem d_M_go_42 : dI prog_8_method_35_code 42 (.aload_n 0) 1 43 := by decide +kernel
theorem d_M_go_43 : dI prog_8_method_35_code 43 (.iconst 4) 1 44 ∧ Int32.ofInt 4 = 4 := by decide +kernel
theorem d_M_go_44 : dI prog_8_method_35_code 44 (.invokevirtual 61) 3 47 := by decide +kernel
theorem d_M_go_47 : decode prog_8_method_35_code 47 = .ok (.ireturn, 1) := by decide +kernel
theorem d_M_go_48 : dI prog_8_method_35_code 48 (.aload_n 0) 1 49 := by decide +kernel
theorem d_M_go_49 : dI prog_8_method_35_code 49 (.getfield 7) 3 52 := by decide +kernel
theorem d_M_go_52 : dI prog_8_method_35_code 52 (.iconst 0) 1 53 ∧ Int32.ofInt 0 = 0 := by decide +kernel
theorem d_M_go_53 : dI prog_8_method_35_code 53 .iaload 1 54 := by decide +kernel
theorem d_M_go_54 : dI prog_8_method_35_code 54 (.istore_n 3) 1 55 := by decide +kernel
theorem d_M_go_55 : dI prog_8_method_35_code 55 (.aload_n 0) 1 56 := by decide +kernel
theorem d_M_go_56 : dI prog_8_method_35_code 56 (.iload_n 2) 1 57 := by decide +kernel
theorem d_M_go_57 : dI prog_8_method_35_code 57 (.invokevirtual 117) 3 60 := by decide +kernel
theorem d_M_go_60 : dI prog_8_method_35_code 60 (.aload_n 0) 1 61 := by decide +kernel
theorem d_M_go_61 : dI prog_8_method_35_code 61 (.getfield 7) 3 64 := by decide +kernel
theorem d_M_go_64 : dI prog_8_method_35_code 64 (.iconst 0) 1 65 ∧ Int32.ofInt 0 = 0 := by decide +kernel
theorem d_M_go_65 : dI prog_8_method_35_code 65 .iaload 1 66 := by decide +kernel
theorem d_M_go_66 : dI prog_8_method_35_code 66 (.iload_n 3) 1 67 := by decide +kernel
theorem d_M_go_67 : dI prog_8_method_35_code 67 .isub 1 68 := by decide +kernel
theorem d_M_go_68 : decode prog_8_method_35_code 68 = .ok (.ireturn, 1) := by decide +kernel
theorem d_M_became_0 : dI prog_8_method_36_code 0 (.iload_n 1) 1 1 := by decide +kernel
theorem d_M_became_1 : dJ prog_8_method_36_code 1 (.ifCond .ne 19) 19 4 20 := by decide +kernel
theorem d_M_became_4 : dI prog_8_method_36_code 4 (.aload_n 0) 1 5 := by decide +kernel
theorem d_M_became_5 : dI prog_8_method_36_code 5 (.getfield 7) 3 8 := by decide +kernel
theorem d_M_became_8 : dI prog_8_method_36_code 8 (.iconst 0) 1 9 ∧ Int32.ofInt 0 = 0 := by decide +kernel
theorem d_M_became_9 : dI prog_8_method_36_code 9 .iaload 1 10 := by decide +kernel
theorem d_M_became_10 : dI prog_8_method_36_code 10 (.aload_n 0) 1 11 := by decide +kernel
theorem d_M_became_11 : dI prog_8_method_36_code 11 (.getfield 16) 3 14 := by decide +kernel
theorem d_M_became_14 : dI prog_8_method_36_code 14 (.iconst 0) 1 15 ∧ Int32.ofInt 0 = 0 := by decide +kernel
theorem d_M_became_15 : dI prog_8_method_36_code 15 .iaload 1 16 := by decide +kernel
theorem d_M_became_16 : dI prog_8_method_36_code 16 .isub 1 17 := by decide +kernel
theorem d_M_became_17 : dJ prog_8_method_36_code 17 (.goto 55) 55 20 72 := by decide +kernel
theorem d_M_became_20 : dI prog_8_method_36_code 20 (.iload_n 1) 1 21 := by decide +kernel
theorem d_M_became_21 : dI prog_8_method_36_code 21 (.iconst 1) 1 22 ∧ Int32.ofInt 1 = 1 := by decide +kernel
theorem d_M_became_22 : dJ prog_8_method_36_code 22 (.if_icmp .ne 21) 21 25 43 := by decide +kernel
theorem d_M_became_25 : dI prog_8_method_36_code 25 (.aload_n 0) 1 26 := by decide +kernel
theorem d_M_became_26 : dI prog_8_method_36_code 26 (.getfield 7) 3 29 := by decide +kernel
theorem d_M_became_29 : dI prog_8_method_36_code 29 (.bipush 7) 2 31 ∧ (Int8.ofInt 7).toInt32 = 7 := by decide +kernel
theorem d_M_became_31 : dI prog_8_method_36_code 31 .iaload 1 32 := by decide +kernel
theorem d_M_became_32 : dI prog_8_method_36_code 32 (.aload_n 0) 1 33 := by decide +kernel
theorem d_M_became_33 : dI prog_8_method_36_code 33 (.getfield 16) 3 36 := by decide +kernel
theorem d_M_became_36 : dI prog_8_method_36_code 36 (.bipush 7) 2 38 ∧ (Int8.ofInt 7).toInt32 = 7 := by decide +kernel
theorem d_M_became_38 : dI prog_8_method_36_code 38 .iaload 1 39 := by decide +kernel
theorem d_M_became_39 : dI prog_8_method_36_code 39 .isub 1 40 := by decide +kernel
theorem d_M_became_40 : dJ prog_8_method_36_code 40 (.goto 32) 32 43 72 := by decide +kernel
theorem d_M_became_43 : dI prog_8_method_36_code 43 (.iload_n 1) 1 44 := by decide +kernel
theorem d_M_became_44 : dI prog_8_method_36_code 44 (.iconst 2) 1 45 ∧ Int32.ofInt 2 = 2 := by decide +kernel
theorem d_M_became_45 : dJ prog_8_method_36_code 45 (.if_icmp .ne 21) 21 48 66 := by decide +kernel
theorem d_M_became_48 : dI prog_8_method_36_code 48 (.aload_n 0) 1 49 := by decide +kernel
theorem d_M_became_49 : dI prog_8_method_36_code 49 (.getfield 7) 3 52 := by decide +kernel
theorem d_M_became_52 : dI prog_8_method_36_code 52 (.bipush 8) 2 54 ∧ (Int8.ofInt 8).toInt32 = 8 := by decide +kernel
theorem d_M_became_54 : dI prog_8_method_36_code 54 .iaload 1 55 := by decide +kernel
theorem d_M_became_55 : dI prog_8_method_36_code 55 (.aload_n 0) 1 56 := by decide +kernel
theorem d_M_became_56 : dI prog_8_method_36_code 56 (.getfield 16) 3 59 := by decide +kernel
theorem d_M_became_59 : dI prog_8_method_36_code 59 (.bipush 8) 2 61 ∧ (Int8.ofInt 8).toInt32 = 8 := by decide +kernel
theorem d_M_became_61 : dI prog_8_method_36_code 61 .iaload 1 62 := by decide +kernel
theorem d_M_became_62 : dI prog_8_method_36_code 62 .isub 1 63 := by decide +kernel
theorem d_M_became_63 : dJ prog_8_method_36_code 63 (.goto 9) 9 66 72 := by decide +kernel
theorem d_M_became_66 : dI prog_8_method_36_code 66 (.aload_n 0) 1 67 := by decide +kernel
theorem d_M_became_67 : dI prog_8_method_36_code 67 (.getfield 7) 3 70 := by decide +kernel
theorem d_M_became_70 : dI prog_8_method_36_code 70 (.iconst 1) 1 71 ∧ Int32.ofInt 1 = 1 := by decide +kernel
theorem d_M_became_71 : dI prog_8_method_36_code 71 .iaload 1 72 := by decide +kernel
theorem d_M_became_72 : dI prog_8_method_36_code 72 (.istore_n 2) 1 73 := by decide +kernel
theorem d_M_became_73 : dI prog_8_method_36_code 73 (.aload_n 0) 1 74 := by decide +kernel
theorem d_M_became_74 : dI prog_8_method_36_code 74 (.invokevirtual 121) 3 77 := by decide +kernel
theorem d_M_became_77 : dI prog_8_method_36_code 77 (.iload_n 2) 1 78 := by decide +kernel
theorem d_M_became_78 : decode prog_8_method_36_code 78 = .ok (.ireturn, 1) := by decide +kernel
theorem d_M_gives_0 : dI prog_8_method_37_code 0 (.iload_n 1) 1 1 := by decide +kernel
theorem d_M_gives_1 : dI prog_8_method_37_code 1 (.invokestatic 108) 3 4 := by decide +kernel
theorem d_M_gives_4 : dJ prog_8_method_37_code 4 (.ifCond .eq 12) 12 7 16 := by decide +kernel
theorem d_M_gives_7 : dI prog_8_method_37_code 7 (.iload_n 2) 1 8 := by decide +kernel
theorem d_M_gives_8 : dI prog_8_method_37_code 8 (.iconst 0) 1 9 ∧ Int32.ofInt 0 = 0 := by decide +kernel
theorem d_M_gives_9 : dI prog_8_method_37_code 9 (.iconst 3) 1 10 ∧ Int32.ofInt 3 = 3 := by decide +kernel
theorem d_M_gives_10 : dI prog_8_method_37_code 10 (.invokestatic 45) 3 13 := by decide +kernel
theorem d_M_gives_13 : dJ prog_8_method_37_code 13 (.ifCond .ne 9) 9 16 22 := by decide +kernel
theorem d_M_gives_16 : dI prog_8_method_37_code 16 (.aload_n 0) 1 17 := by decide +kernel
theorem d_M_gives_17 : dI prog_8_method_37_code 17 (.iconst 0) 1 18 ∧ Int32.ofInt 0 = 0 := by decide +kernel
theorem d_M_gives_18 : dI prog_8_method_37_code 18 (.invokevirtual 61) 3 21 := by decide +kernel
theorem d_M_gives_21 : decode prog_8_method_37_code 21 = .ok (.ireturn, 1) := by decide +kernel
theorem d_M_gives_22 : dI prog_8_method_37_code 22 (.aload_n 0) 1 23 := by decide +kernel
theorem d_M_gives_23 : dI prog_8_method_37_code 23 (.getfield 7) 3 26 := by decide +kernel
theorem d_M_gives_26 : dI prog_8_method_37_code 26 (.bipush 52) 2 28 ∧ (Int8.ofInt 52).toInt32 = 52 := by decide +kernel
theorem d_M_gives_28 : dI prog_8_method_37_code 28 (.iload_n 1) 1 29 := by decide +kernel
theorem d_M_gives_29 : dI prog_8_method_37_code 29 .iadd 1 30 := by decide +kernel
theorem d_M_gives_30 : dI prog_8_method_37_code 30 .iaload 1 31 := by decide +kernel
theorem d_M_gives_31 : dI prog_8_method_37_code 31 (.istore_n 3) 1 32 := by decide +kernel
theorem d_M_gives_32 : dI prog_8_method_37_code 32 (.iload_n 3) 1 33 := by decide +kernel
theorem d_M_gives_33 : dI prog_8_method_37_code 33 (.iconst (-1)) 1 34 ∧ Int32.ofInt (-1) = (-1) := by decide +kernel
theorem d_M_gives_34 : dJ prog_8_method_37_code 34 (.if_icmp .ne 9) 9 37 43 := by decide +kernel
theorem d_M_gives_37 : dI prog_8_method_37_code 37 (.aload_n 0) 1 38 := by decide +kernel
theorem d_M_gives_38 : dI prog_8_method_37_code 38 (.iconst 3) 1 39 ∧ Int32.ofInt 3 = 3 := by decide +kernel
theorem d_M_gives_39 : dI prog_8_method_37_code 39 (.invokevirtual 61) 3 42 := by decide +kernel
theorem d_M_gives_42 : decode prog_8_method_37_code 42 = .ok (.ireturn, 1) := by decide +kernel
theorem d_M_gives_43 : dI prog_8_method_37_code 43 (.aload_n 0) 1 44 := by decide +kernel
theorem d_M_gives_44 : dI prog_8_method_37_code 44 (.iload_n 3) 1 45 := by decide +kernel
theorem d_M_gives_45 : dI prog_8_method_37_code 45 (.invokevirtual 114) 3 48 := by decide +kernel
theorem d_M_gives_48 : dJ prog_8_method_37_code 48 (.ifCond .ne 9) 9 51 57 := by decide +kernel
theorem d_M_gives_51 : dI prog_8_method_37_code 51 (.aload_n 0) 1 52 := by decide +kernel
theorem d_M_gives_52 : dI prog_8_method_37_code 52 (.iconst 4) 1 53 ∧ Int32.ofInt 4 = 4 := by decide +kernel
theorem d_M_gives_53 : dI prog_8_method_37_code 53 (.invokevirtual 61) 3 56 := by decide +kernel
theorem d_M_gives_56 : decode prog_8_method_37_code 56 = .ok (.ireturn, 1) := by decide +kernel
theorem d_M_gives_57 : dI prog_8_method_37_code 57 (.aload_n 0) 1 58 := by decide +kernel
theorem d_M_gives_58 : dI prog_8_method_37_code 58 (.invokevirtual 124) 3 61 := by decide +kernel
theorem d_M_gives_61 : dI prog_8_method_37_code 61 (.aload_n 0) 1 62 := by decide +kernel
theorem d_M_gives_62 : dI prog_8_method_37_code 62 (.iload_n 3) 1 63 := by decide +kernel
theorem d_M_gives_63 : dI prog_8_method_37_code 63 (.invokevirtual 117) 3 66 := by decide +kernel
theorem d_M_gives_66 : dI prog_8_method_37_code 66 (.aload_n 0) 1 67 := by decide +kernel
theorem d_M_gives_67 : dI prog_8_method_37_code 67 (.iload_n 2) 1 68 := by decide +kernel
theorem d_M_gives_68 : dI prog_8_method_37_code 68 (.invokevirtual 127) 3 71 := by decide +kernel
theorem d_M_gives_71 : decode prog_8_method_37_code 71 = .ok (.ireturn, 1) := by decide +kernel
theorem d_M_again_0 : dI prog_8_method_38_code 0 (.iconst 0) 1 1 ∧ Int32.ofInt 0 = 0 := by decide +kernel
theorem d_M_again_1 : dI prog_8_method_38_code 1 (.istore_n 3) 1 2 := by decide +kernel
theorem d_M_again_2 : dI prog_8_method_38_code 2 (.iload_n 3) 1 3 := by decide +kernel
theorem d_M_again_3 : dI prog_8_method_38_code 3 (.iload_n 2) 1 4 := by decide +kernel
theorem d_M_again_4 : dJ prog_8_method_38_code 4 (.if_icmp .ge 22) 22 7 26 := by decide +kernel
theorem d_M_again_7 : dI prog_8_method_38_code 7 (.aload_n 0) 1 8 := by decide +kernel
theorem d_M_again_8 : dI prog_8_method_38_code 8 (.iload_n 1) 1 9 := by decide +kernel
theorem d_M_again_9 : dI prog_8_method_38_code 9 (.invokevirtual 114) 3 12 := by decide +kernel
theorem d_M_again_12 : dJ prog_8_method_38_code 12 (.ifCond .eq 14) 14 15 26 := by decide +kernel
theorem d_M_again_15 : dI prog_8_method_38_code 15 (.aload_n 0) 1 16 := by decide +kernel
theorem d_M_again_16 : dI prog_8_method_38_code 16 (.iload_n 1) 1 17 := by decide +kernel
theorem d_M_again_17 : dI prog_8_method_38_code 17 (.invokevirtual 117) 3 20 := by decide +kernel
theorem d_M_again_20 : dI prog_8_method_38_code 20 (.iinc 3 1) 3 23 ∧ Int32.ofInt 1 = 1 := by decide +kernel
theorem d_M_again_23 : dJ prog_8_method_38_code 23 (.goto (-21)) (-21) 26 2 := by decide +kernel
theorem d_M_again_26 : dI prog_8_method_38_code 26 (.iload_n 3) 1 27 := by decide +kernel
theorem d_M_again_27 : decode prog_8_method_38_code 27 = .ok (.ireturn, 1) := by decide +kernel
theorem d_M_lasts_0 : dI prog_8_method_39_code 0 (.iload_n 1) 1 1 := by decide +kernel
theorem d_M_lasts_1 : dI prog_8_method_39_code 1 (.invokestatic 108) 3 4 := by decide +kernel
theorem d_M_lasts_4 : dJ prog_8_method_39_code 4 (.ifCond .ne 9) 9 7 13 := by decide +kernel
theorem d_M_lasts_7 : dI prog_8_method_39_code 7 (.aload_n 0) 1 8 := by decide +kernel
theorem d_M_lasts_8 : dI prog_8_method_39_code 8 (.iconst 0) 1 9 ∧ Int32.ofInt 0 = 0 := by decide +kernel
theorem d_M_lasts_9 : dI prog_8_method_39_code 9 (.invokevirtual 61) 3 12 := by decide +kernel
theorem d_M_lasts_12 : decode prog_8_method_39_code 12 = .ok (.ireturn, 1) := by decide +kernel
theorem d_M_lasts_13 : dI prog_8_method_39_code 13 (.aload_n 0) 1 14 := by decide +kernel
theorem d_M_lasts_14 : dI prog_8_method_39_code 14 (.getfield 7) 3 17 := by decide +kernel
theorem d_M_lasts_17 : dI prog_8_method_39_code 17 (.bipush 52) 2 19 ∧ (Int8.ofInt 52).toInt32 = 52 := by decide +kernel
theorem d_M_lasts_19 : dI prog_8_method_39_code 19 (.iload_n 1) 1 20 := by decide +kernel
theorem d_M_lasts_20 : dI prog_8_method_39_code 20 .iadd 1 21 := by decide +kernel
theorem d_M_lasts_21 : dI prog_8_method_39_code 21 .iaload 1 22 := by decide +kernel
theorem d_M_lasts_22 : dI prog_8_method_39_code 22 (.iconst (-1)) 1 23 ∧ Int32.ofInt (-1) = (-1) := by decide +kernel
theorem d_M_lasts_23 : dJ prog_8_method_39_code 23 (.if_icmp .ne 9) 9 26 32 := by decide +kernel
theorem d_M_lasts_26 : dI prog_8_method_39_code 26 (.aload_n 0) 1 27 := by decide +kernel
theorem d_M_lasts_27 : dI prog_8_method_39_code 27 (.iconst 3) 1 28 ∧ Int32.ofInt 3 = 3 := by decide +kernel
theorem d_M_lasts_28 : dI prog_8_method_39_code 28 (.invokevirtual 61) 3 31 := by decide +kernel
theorem d_M_lasts_31 : decode prog_8_method_39_code 31 = .ok (.ireturn, 1) := by decide +kernel
theorem d_M_lasts_32 : dI prog_8_method_39_code 32 (.aload_n 0) 1 33 := by decide +kernel
theorem d_M_lasts_33 : dI prog_8_method_39_code 33 (.invokevirtual 124) 3 36 := by decide +kernel
theorem d_M_lasts_36 : dI prog_8_method_39_code 36 (.aload_n 0) 1 37 := by decide +kernel
theorem d_M_lasts_37 : dI prog_8_method_39_code 37 (.aload_n 0) 1 38 := by decide +kernel
theorem d_M_lasts_38 : dI prog_8_method_39_code 38 (.getfield 7) 3 41 := by decide +kernel
theorem d_M_lasts_41 : dI prog_8_method_39_code 41 (.bipush 52) 2 43 ∧ (Int8.ofInt 52).toInt32 = 52 := by decide +kernel
theorem d_M_lasts_43 : dI prog_8_method_39_code 43 (.iload_n 1) 1 44 := by decide +kernel
theorem d_M_lasts_44 : dI prog_8_method_39_code 44 .iadd 1 45 := by decide +kernel
theorem d_M_lasts_45 : dI prog_8_method_39_code 45 .iaload 1 46 := by decide +kernel
theorem d_M_lasts_46 : dI prog_8_method_39_code 46 (.bipush 50) 2 48 ∧ (Int8.ofInt 50).toInt32 = 50 := by decide +kernel
theorem d_M_lasts_48 : dI prog_8_method_39_code 48 (.invokevirtual 130) 3 51 := by decide +kernel
theorem d_M_lasts_51 : dI prog_8_method_39_code 51 (.istore_n 2) 1 52 := by decide +kernel
theorem d_M_lasts_52 : dI prog_8_method_39_code 52 (.aload_n 0) 1 53 := by decide +kernel
theorem d_M_lasts_53 : dI prog_8_method_39_code 53 (.invokevirtual 121) 3 56 := by decide +kernel
theorem d_M_lasts_56 : dI prog_8_method_39_code 56 (.iload_n 2) 1 57 := by decide +kernel
theorem d_M_lasts_57 : decode prog_8_method_39_code 57 = .ok (.ireturn, 1) := by decide +kernel
theorem d_M_out_0 : dI prog_8_method_40_code 0 (.iload_n 1) 1 1 := by decide +kernel
theorem d_M_out_1 : dI prog_8_method_40_code 1 (.invokestatic 108) 3 4 := by decide +kernel
theorem d_M_out_4 : dJ prog_8_method_40_code 4 (.ifCond .ne 9) 9 7 13 := by decide +kernel
theorem d_M_out_7 : dI prog_8_method_40_code 7 (.aload_n 0) 1 8 := by decide +kernel
theorem d_M_out_8 : dI prog_8_method_40_code 8 (.iconst 0) 1 9 ∧ Int32.ofInt 0 = 0 := by decide +kernel
theorem d_M_out_9 : dI prog_8_method_40_code 9 (.invokevirtual 61) 3 12 := by decide +kernel
theorem d_M_out_12 : decode prog_8_method_40_code 12 = .ok (.ireturn, 1) := by decide +kernel
theorem d_M_out_13 : dI prog_8_method_40_code 13 (.aload_n 0) 1 14 := by decide +kernel
theorem d_M_out_14 : dI prog_8_method_40_code 14 (.getfield 7) 3 17 := by decide +kernel
theorem d_M_out_17 : dI prog_8_method_40_code 17 (.bipush 52) 2 19 ∧ (Int8.ofInt 52).toInt32 = 52 := by decide +kernel
theorem d_M_out_19 : dI prog_8_method_40_code 19 (.iload_n 1) 1 20 := by decide +kernel
theorem d_M_out_20 : dI prog_8_method_40_code 20 .iadd 1 21 := by decide +kernel
theorem d_M_out_21 : dI prog_8_method_40_code 21 .iaload 1 22 := by decide +kernel
theorem d_M_out_22 : dI prog_8_method_40_code 22 (.iconst (-1)) 1 23 ∧ Int32.ofInt (-1) = (-1) := by decide +kernel
theorem d_M_out_23 : dJ prog_8_method_40_code 23 (.if_icmp .ne 9) 9 26 32 := by decide +kernel
theorem d_M_out_26 : dI prog_8_method_40_code 26 (.aload_n 0) 1 27 := by decide +kernel
theorem d_M_out_27 : dI prog_8_method_40_code 27 (.iconst 3) 1 28 ∧ Int32.ofInt 3 = 3 := by decide +kernel
theorem d_M_out_28 : dI prog_8_method_40_code 28 (.invokevirtual 61) 3 31 := by decide +kernel
theorem d_M_out_31 : decode prog_8_method_40_code 31 = .ok (.ireturn, 1) := by decide +kernel
theorem d_M_out_32 : dI prog_8_method_40_code 32 (.aload_n 0) 1 33 := by decide +kernel
theorem d_M_out_33 : dI prog_8_method_40_code 33 (.aload_n 0) 1 34 := by decide +kernel
theorem d_M_out_34 : dI prog_8_method_40_code 34 (.getfield 7) 3 37 := by decide +kernel
theorem d_M_out_37 : dI prog_8_method_40_code 37 (.bipush 52) 2 39 ∧ (Int8.ofInt 52).toInt32 = 52 := by decide +kernel
theorem d_M_out_39 : dI prog_8_method_40_code 39 (.iload_n 1) 1 40 := by decide +kernel
theorem d_M_out_40 : dI prog_8_method_40_code 40 .iadd 1 41 := by decide +kernel
theorem d_M_out_41 : dI prog_8_method_40_code 41 .iaload 1 42 := by decide +kernel
theorem d_M_out_42 : dI prog_8_method_40_code 42 (.bipush 50) 2 44 ∧ (Int8.ofInt 50).toInt32 = 50 := by decide +kernel
theorem d_M_out_44 : dI prog_8_method_40_code 44 (.invokevirtual 133) 3 47 := by decide +kernel
theorem d_M_out_47 : dI prog_8_method_40_code 47 (.istore_n 2) 1 48 := by decide +kernel
theorem d_M_out_48 : dI prog_8_method_40_code 48 (.iload_n 2) 1 49 := by decide +kernel
theorem d_M_out_49 : dJ prog_8_method_40_code 49 (.ifCond .ge 11) 11 52 60 := by decide +kernel
theorem d_M_out_52 : dI prog_8_method_40_code 52 (.aload_n 0) 1 53 := by decide +kernel
theorem d_M_out_53 : dI prog_8_method_40_code 53 (.iconst 3) 1 54 ∧ Int32.ofInt 3 = 3 := by decide +kernel
theorem d_M_out_54 : dI prog_8_method_40_code 54 (.invokevirtual 61) 3 57 := by decide +kernel
theorem d_M_out_57 : dJ prog_8_method_40_code 57 (.goto 4) 4 60 61 := by decide +kernel
theorem d_M_out_60 : dI prog_8_method_40_code 60 (.iload_n 2) 1 61 := by decide +kernel
theorem d_M_out_61 : decode prog_8_method_40_code 61 = .ok (.ireturn, 1) := by decide +kernel
theorem d_M_outBy_0 : dI prog_8_method_41_code 0 (.aload_n 0) 1 1 := by decide +kernel
theorem d_M_outBy_1 : dI prog_8_method_41_code 1 (.invokevirtual 124) 3 4 := by decide +kernel
theorem d_M_outBy_4 : dI prog_8_method_41_code 4 (.aload_n 0) 1 5 := by decide +kernel
theorem d_M_outBy_5 : dI prog_8_method_41_code 5 (.iload_n 1) 1 6 := by decide +kernel
theorem d_M_outBy_6 : dI prog_8_method_41_code 6 (.iload_n 2) 1 7 := by decide +kernel
theorem d_M_outBy_7 : dI prog_8_method_41_code 7 (.invokevirtual 130) 3 10 := by decide +kernel
theorem d_M_outBy_10 : dI prog_8_method_41_code 10 (.istore_n 3) 1 11 := by decide +kernel
theorem d_M_outBy_11 : dI prog_8_method_41_code 11 (.aload_n 0) 1 12 := by decide +kernel
theorem d_M_outBy_12 : dI prog_8_method_41_code 12 (.invokevirtual 81) 3 15 := by decide +kernel
theorem d_M_outBy_15 : dJ prog_8_method_41_code 15 (.ifCond .eq 7) 7 18 22 := by decide +kernel
theorem d_M_outBy_18 : dI prog_8_method_41_code 18 (.iload_n 3) 1 19 := by decide +kernel
theorem d_M_outBy_19 : dJ prog_8_method_41_code 19 (.goto 4) 4 22 23 := by decide +kernel
theorem d_M_outBy_22 : dI prog_8_method_41_code 22 (.iconst (-1)) 1 23 ∧ Int32.ofInt (-1) = (-1) := by decide +kernel
theorem d_M_outBy_23 : dI prog_8_method_41_code 23 (.istore_n 3) 1 24 := by decide +kernel
theorem d_M_outBy_24 : dI prog_8_method_41_code 24 (.aload_n 0) 1 25 := by decide +kernel
theorem d_M_outBy_25 : dI prog_8_method_41_code 25 (.invokevirtual 121) 3 28 := by decide +kernel
theorem d_M_outBy_28 : dI prog_8_method_41_code 28 (.iload_n 3) 1 29 := by decide +kernel
theorem d_M_outBy_29 : decode prog_8_method_41_code 29 = .ok (.ireturn, 1) := by decide +kernel
theorem d_M_when_0 : dI prog_8_method_42_code 0 (.iload_n 1) 1 1 := by decide +kernel
theorem d_M_when_1 : dI prog_8_method_42_code 1 (.invokestatic 108) 3 4 := by decide +kernel
theorem d_M_when_4 : dJ prog_8_method_42_code 4 (.ifCond .ne 9) 9 7 13 := by decide +kernel
theorem d_M_when_7 : dI prog_8_method_42_code 7 (.aload_n 0) 1 8 := by decide +kernel
theorem d_M_when_8 : dI prog_8_method_42_code 8 (.iconst 0) 1 9 ∧ Int32.ofInt 0 = 0 := by decide +kernel
theorem d_M_when_9 : dI prog_8_method_42_code 9 (.invokevirtual 61) 3 12 := by decide +kernel
theorem d_M_when_12 : decode prog_8_method_42_code 12 = .ok (.ireturn, 1) := by decide +kernel
theorem d_M_when_13 : dI prog_8_method_42_code 13 (.aload_n 0) 1 14 := by decide +kernel
theorem d_M_when_14 : dI prog_8_method_42_code 14 (.getfield 7) 3 17 := by decide +kernel
theorem d_M_when_17 : dI prog_8_method_42_code 17 (.bipush 52) 2 19 ∧ (Int8.ofInt 52).toInt32 = 52 := by decide +kernel
theorem d_M_when_19 : dI prog_8_method_42_code 19 (.iload_n 1) 1 20 := by decide +kernel
theorem d_M_when_20 : dI prog_8_method_42_code 20 .iadd 1 21 := by decide +kernel
theorem d_M_when_21 : dI prog_8_method_42_code 21 .iaload 1 22 := by decide +kernel
theorem d_M_when_22 : dI prog_8_method_42_code 22 (.istore_n 2) 1 23 := by decide +kernel
theorem d_M_when_23 : dI prog_8_method_42_code 23 (.iconst (-1)) 1 24 ∧ Int32.ofInt (-1) = (-1) := by decide +kernel
theorem d_M_when_24 : dI prog_8_method_42_code 24 (.istore_n 3) 1 25 := by decide +kernel
theorem d_M_when_25 : dI prog_8_method_42_code 25 (.iconst 0) 1 26 ∧ Int32.ofInt 0 = 0 := by decide +kernel
theorem d_M_when_26 : dI prog_8_method_42_code 26 (.istore 4) 2 28 := by decide +kernel
theorem d_M_when_28 : dI prog_8_method_42_code 28 (.iconst 0) 1 29 ∧ Int32.ofInt 0 = 0 := by decide +kernel
theorem d_M_when_29 : dI prog_8_method_42_code 29 (.istore 5) 2 31 := by decide +kernel
theorem d_M_when_31 : dI prog_8_method_42_code 31 (.iload 5) 2 33 := by decide +kernel
theorem d_M_when_33 : dI prog_8_method_42_code 33 (.bipush 24) 2 35 ∧ (Int8.ofInt 24).toInt32 = 24 := by decide +kernel
theorem d_M_when_35 : dJ prog_8_method_42_code 35 (.if_icmp .ge 112) 112 38 147 := by decide +kernel
theorem d_M_when_38 : dI prog_8_method_42_code 38 (.iload_n 2) 1 39 := by decide +kernel
theorem d_M_when_39 : dI prog_8_method_42_code 39 (.iconst (-1)) 1 40 ∧ Int32.ofInt (-1) = (-1) := by decide +kernel
theorem d_M_when_40 : dJ prog_8_method_42_code 40 (.if_icmp .eq 107) 107 43 147 := by decide +kernel
theorem d_M_when_43 : dI prog_8_method_42_code 43 (.aload_n 0) 1 44 := by decide +kernel
theorem d_M_when_44 : dI prog_8_method_42_code 44 (.invokevirtual 124) 3 47 := by decide +kernel
theorem d_M_when_47 : dI prog_8_method_42_code 47 (.aload_n 0) 1 48 := by decide +kernel
theorem d_M_when_48 : dI prog_8_method_42_code 48 (.getfield 7) 3 51 := by decide +kernel
theorem d_M_when_51 : dI prog_8_method_42_code 51 (.bipush 7) 2 53 ∧ (Int8.ofInt 7).toInt32 = 7 := by decide +kernel
theorem d_M_when_53 : dI prog_8_method_42_code 53 (.iload 5) 2 55 := by decide +kernel
theorem d_M_when_55 : dJ prog_8_method_42_code 55 (.ifCond .ne 13) 13 58 68 := by decide +kernel
theorem d_M_when_58 : dI prog_8_method_42_code 58 (.aload_n 0) 1 59 := by decide +kernel
theorem d_M_when_59 : dI prog_8_method_42_code 59 (.getfield 7) 3 62 := by decide +kernel
theorem d_M_when_62 : dI prog_8_method_42_code 62 (.bipush 7) 2 64 ∧ (Int8.ofInt 7).toInt32 = 7 := by decide +kernel
theorem d_M_when_64 : dI prog_8_method_42_code 64 .iaload 1 65 := by decide +kernel
theorem d_M_when_65 : dJ prog_8_method_42_code 65 (.goto 19) 19 68 84 := by decide +kernel
theorem d_M_when_68 : dI prog_8_method_42_code 68 (.aload_n 0) 1 69 := by decide +kernel
theorem d_M_when_69 : dI prog_8_method_42_code 69 (.getfield 7) 3 72 := by decide +kernel
theorem d_M_when_72 : dI prog_8_method_42_code 72 (.bipush 7) 2 74 ∧ (Int8.ofInt 7).toInt32 = 7 := by decide +kernel
theorem d_M_when_74 : dI prog_8_method_42_code 74 .iaload 1 75 := by decide +kernel
theorem d_M_when_75 : dI prog_8_method_42_code 75 (.bipush 60) 2 77 ∧ (Int8.ofInt 60).toInt32 = 60 := by decide +kernel
theorem d_M_when_77 : dI prog_8_method_42_code 77 .idiv 1 78 := by decide +kernel
theorem d_M_when_78 : dI prog_8_method_42_code 78 (.iload 5) 2 80 := by decide +kernel
theorem d_M_when_80 : dI prog_8_method_42_code 80 .iadd 1 81 := by decide +kernel
theorem d_M_when_81 : dI prog_8_method_42_code 81 (.bipush 60) 2 83 ∧ (Int8.ofInt 60).toInt32 = 60 := by decide +kernel
theorem d_M_when_83 : dI prog_8_method_42_code 83 .imul 1 84 := by decide +kernel
theorem d_M_when_84 : dI prog_8_method_42_code 84 .iastore 1 85 := by decide +kernel
theorem d_M_when_85 : dI prog_8_method_42_code 85 (.aload_n 0) 1 86 := by decide +kernel
theorem d_M_when_86 : dI prog_8_method_42_code 86 (.iload_n 2) 1 87 := by decide +kernel
theorem d_M_when_87 : dI prog_8_method_42_code 87 (.invokevirtual 114) 3 90 := by decide +kernel
theorem d_M_when_90 : dJ prog_8_method_42_code 90 (.ifCond .eq 47) 47 93 137 := by decide +kernel
theorem d_M_when_93 : dI prog_8_method_42_code 93 (.aload_n 0) 1 94 := by decide +kernel
theorem d_M_when_94 : dI prog_8_method_42_code 94 (.invokevirtual 53) 3 97 := by decide +kernel
theorem d_M_when_97 : dI prog_8_method_42_code 97 (.istore 6) 2 99 := by decide +kernel
theorem d_M_when_99 : dI prog_8_method_42_code 99 (.aload_n 0) 1 100 := by decide +kernel
theorem d_M_when_100 : dI prog_8_method_42_code 100 (.iload_n 2) 1 101 := by decide +kernel
theorem d_M_when_101 : dI prog_8_method_42_code 101 (.invokevirtual 117) 3 104 := by decide +kernel
theorem d_M_when_104 : dI prog_8_method_42_code 104 (.aload_n 0) 1 105 := by decide +kernel
theorem d_M_when_105 : dI prog_8_method_42_code 105 (.getfield 7) 3 108 := by decide +kernel
theorem d_M_when_108 : dI prog_8_method_42_code 108 (.iconst 0) 1 109 ∧ Int32.ofInt 0 = 0 := by decide +kernel
theorem d_M_when_109 : dI prog_8_method_42_code 109 .iaload 1 110 := by decide +kernel
theorem d_M_when_110 : dI prog_8_method_42_code 110 (.aload_n 0) 1 111 := by decide +kernel
theorem d_M_when_111 : dI prog_8_method_42_code 111 (.getfield 16) 3 114 := by decide +kernel
theorem d_M_when_114 : dI prog_8_method_42_code 114 (.iconst 0) 1 115 ∧ Int32.ofInt 0 = 0 := by decide +kernel
theorem d_M_when_115 : dI prog_8_method_42_code 115 .iaload 1 116 := by decide +kernel
theorem d_M_when_116 : dI prog_8_method_42_code 116 .isub 1 117 := by decide +kernel
theorem d_M_when_117 : dI prog_8_method_42_code 117 (.istore 7) 2 119 := by decide +kernel
theorem d_M_when_119 : dI prog_8_method_42_code 119 (.iload_n 3) 1 120 := by decide +kernel
theorem d_M_when_120 : dJ prog_8_method_42_code 120 (.ifCond .lt 10) 10 123 130 := by decide +kernel
theorem d_M_when_123 : dI prog_8_method_42_code 123 (.iload 7) 2 125 := by decide +kernel
theorem d_M_when_125 : dI prog_8_method_42_code 125 (.iload 4) 2 127 := by decide +kernel
theorem d_M_when_127 : dJ prog_8_method_42_code 127 (.if_icmp .le 10) 10 130 137 := by decide +kernel
theorem d_M_when_130 : dI prog_8_method_42_code 130 (.iload 6) 2 132 := by decide +kernel
theorem d_M_when_132 : dI prog_8_method_42_code 132 (.istore_n 3) 1 133 := by decide +kernel
theorem d_M_when_133 : dI prog_8_method_42_code 133 (.iload 7) 2 135 := by decide +kernel
theorem d_M_when_135 : dI prog_8_method_42_code 135 (.istore 4) 2 137 := by decide +kernel
theorem d_M_when_137 : dI prog_8_method_42_code 137 (.aload_n 0) 1 138 := by decide +kernel
theorem d_M_when_138 : dI prog_8_method_42_code 138 (.invokevirtual 121) 3 141 := by decide +kernel
theorem d_M_when_141 : dI prog_8_method_42_code 141 (.iinc 5 1) 3 144 ∧ Int32.ofInt 1 = 1 := by decide +kernel
theorem d_M_when_144 : dJ prog_8_method_42_code 144 (.goto (-113)) (-113) 147 31 := by decide +kernel
theorem d_M_when_147 : dI prog_8_method_42_code 147 (.iload_n 3) 1 148 := by decide +kernel
theorem d_M_when_148 : dJ prog_8_method_42_code 148 (.ifCond .ge 11) 11 151 159 := by decide +kernel
theorem d_M_when_151 : dI prog_8_method_42_code 151 (.aload_n 0) 1 152 := by decide +kernel
theorem d_M_when_152 : dI prog_8_method_42_code 152 (.iconst 3) 1 153 ∧ Int32.ofInt 3 = 3 := by decide +kernel
theorem d_M_when_153 : dI prog_8_method_42_code 153 (.invokevirtual 61) 3 156 := by decide +kernel
theorem d_M_when_156 : dJ prog_8_method_42_code 156 (.goto 4) 4 159 160 := by decide +kernel
theorem d_M_when_159 : dI prog_8_method_42_code 159 (.iload_n 3) 1 160 := by decide +kernel
theorem d_M_when_160 : decode prog_8_method_42_code 160 = .ok (.ireturn, 1) := by decide +kernel
theorem d_M_feed_0 : dI prog_8_method_43_code 0 (.iload_n 2) 1 1 := by decide +kernel
theorem d_M_feed_1 : dI prog_8_method_43_code 1 (.iconst 1) 1 2 ∧ Int32.ofInt 1 = 1 := by decide +kernel
theorem d_M_feed_2 : dI prog_8_method_43_code 2 (.iconst 4) 1 3 ∧ Int32.ofInt 4 = 4 := by decide +kernel
theorem d_M_feed_3 : dI prog_8_method_43_code 3 (.invokestatic 45) 3 6 := by decide +kernel
theorem d_M_feed_6 : dJ prog_8_method_43_code 6 (.ifCond .ne 9) 9 9 15 := by decide +kernel
theorem d_M_feed_9 : dI prog_8_method_43_code 9 (.aload_n 0) 1 10 := by decide +kernel
theorem d_M_feed_10 : dI prog_8_method_43_code 10 (.iconst 0) 1 11 ∧ Int32.ofInt 0 = 0 := by decide +kernel
theorem d_M_feed_11 : dI prog_8_method_43_code 11 (.invokevirtual 61) 3 14 := by decide +kernel
theorem d_M_feed_14 : decode prog_8_method_43_code 14 = .ok (.ireturn, 1) := by decide +kernel
theorem d_M_feed_15 : dI prog_8_method_43_code 15 (.aload_n 0) 1 16 := by decide +kernel
theorem d_M_feed_16 : dI prog_8_method_43_code 16 (.getfield 136) 3 19 := by decide +kernel
theorem d_M_feed_19 : dI prog_8_method_43_code 19 (.iload_n 2) 1 20 := by decide +kernel
theorem d_M_feed_20 : dI prog_8_method_43_code 20 .iadd 1 21 := by decide +kernel
theorem d_M_feed_21 : dI prog_8_method_43_code 21 (.bipush 120) 2 23 ∧ (Int8.ofInt 120).toInt32 = 120 := by decide +kernel
theorem d_M_feed_23 : dJ prog_8_method_43_code 23 (.if_icmp .le 9) 9 26 32 := by decide +kernel
theorem d_M_feed_26 : dI prog_8_method_43_code 26 (.aload_n 0) 1 27 := by decide +kernel
theorem d_M_feed_27 : dI prog_8_method_43_code 27 (.iconst 1) 1 28 ∧ Int32.ofInt 1 = 1 := by decide +kernel
theorem d_M_feed_28 : dI prog_8_method_43_code 28 (.invokevirtual 61) 3 31 := by decide +kernel
theorem d_M_feed_31 : decode prog_8_method_43_code 31 = .ok (.ireturn, 1) := by decide +kernel
theorem d_M_feed_32 : dI prog_8_method_43_code 32 (.iload_n 2) 1 33 := by decide +kernel
theorem d_M_feed_33 : dI prog_8_method_43_code 33 (.iconst 1) 1 34 ∧ Int32.ofInt 1 = 1 := by decide +kernel
theorem d_M_feed_34 : dI prog_8_method_43_code 34 .isub 1 35 := by decide +kernel
theorem d_M_feed_35 : dI prog_8_method_43_code 35 (.istore_n 3) 1 36 := by decide +kernel
theorem d_M_feed_36 : dI prog_8_method_43_code 36 (.iload_n 3) 1 37 := by decide +kernel
theorem d_M_feed_37 : dJ prog_8_method_43_code 37 (.ifCond .lt 38) 38 40 75 := by decide +kernel
theorem d_M_feed_40 : dI prog_8_method_43_code 40 (.aload_n 0) 1 41 := by decide +kernel
theorem d_M_feed_41 : dI prog_8_method_43_code 41 (.getfield 22) 3 44 := by decide +kernel
theorem d_M_feed_44 : dI prog_8_method_43_code 44 (.aload_n 0) 1 45 := by decide +kernel
theorem d_M_feed_45 : dI prog_8_method_43_code 45 (.getfield 136) 3 48 := by decide +kernel
theorem d_M_feed_48 : dI prog_8_method_43_code 48 (.iload_n 1) 1 49 := by decide +kernel
theorem d_M_feed_49 : dI prog_8_method_43_code 49 (.bipush 8) 2 51 ∧ (Int8.ofInt 8).toInt32 = 8 := by decide +kernel
theorem d_M_feed_51 : dI prog_8_method_43_code 51 (.iload_n 3) 1 52 := by decide +kernel
theorem d_M_feed_52 : dI prog_8_method_43_code 52 .imul 1 53 := by decide +kernel
theorem d_M_feed_53 : dI prog_8_method_43_code 53 .ishr 1 54 := by decide +kernel
theorem d_M_feed_54 : dI prog_8_method_43_code 54 (.sipush 255) 3 57 ∧ (Int16.ofInt 255).toInt32 = 255 := by decide +kernel
theorem d_M_feed_57 : dI prog_8_method_43_code 57 .iand 1 58 := by decide +kernel
theorem d_M_feed_58 : dI prog_8_method_43_code 58 .iastore 1 59 := by decide +kernel
theorem d_M_feed_59 : dI prog_8_method_43_code 59 (.aload_n 0) 1 60 := by decide +kernel
theorem d_M_feed_60 : dI prog_8_method_43_code 60 .dup 1 61 := by decide +kernel
theorem d_M_feed_61 : dI prog_8_method_43_code 61 (.getfield 136) 3 64 := by decide +kernel
theorem d_M_feed_64 : dI prog_8_method_43_code 64 (.iconst 1) 1 65 ∧ Int32.ofInt 1 = 1 := by decide +kernel
theorem d_M_feed_65 : dI prog_8_method_43_code 65 .iadd 1 66 := by decide +kernel
theorem d_M_feed_66 : dI prog_8_method_43_code 66 (.putfield 136) 3 69 := by decide +kernel
theorem d_M_feed_69 : dI prog_8_method_43_code 69 (.iinc 3 (-1)) 3 72 ∧ Int32.ofInt (-1) = (-1) := by decide +kernel
theorem d_M_feed_72 : dJ prog_8_method_43_code 72 (.goto (-36)) (-36) 75 36 := by decide +kernel
theorem d_M_feed_75 : dI prog_8_method_43_code 75 (.aload_n 0) 1 76 := by decide +kernel
theorem d_M_feed_76 : dI prog_8_method_43_code 76 (.getfield 136) 3 79 := by decide +kernel
theorem d_M_feed_79 : decode prog_8_method_43_code 79 = .ok (.ireturn, 1) := by decide +kernel
theorem d_M_wipe_0 : dI prog_8_method_44_code 0 (.aload_n 0) 1 1 := by decide +kernel
theorem d_M_wipe_1 : dI prog_8_method_44_code 1 (.getfield 136) 3 4 := by decide +kernel
theorem d_M_wipe_4 : dI prog_8_method_44_code 4 (.istore_n 1) 1 5 := by decide +kernel
theorem d_M_wipe_5 : dI prog_8_method_44_code 5 (.aload_n 0) 1 6 := by decide +kernel
theorem d_M_wipe_6 : dI prog_8_method_44_code 6 (.iconst 0) 1 7 ∧ Int32.ofInt 0 = 0 := by decide +kernel
theorem d_M_wipe_7 : dI prog_8_method_44_code 7 (.putfield 136) 3 10 := by decide +kernel
theorem d_M_wipe_10 : dI prog_8_method_44_code 10 (.iload_n 1) 1 11 := by decide +kernel
theorem d_M_wipe_11 : decode prog_8_method_44_code 11 = .ok (.ireturn, 1) := by decide +kernel
theorem d_M_byteAt_0 : dI prog_8_method_45_code 0 (.iload_n 1) 1 1 := by decide +kernel
theorem d_M_byteAt_1 : dI prog_8_method_45_code 1 (.aload_n 0) 1 2 := by decide +kernel
theorem d_M_byteAt_2 : dI prog_8_method_45_code 2 (.getfield 136) 3 5 := by decide +kernel
theorem d_M_byteAt_5 : dJ prog_8_method_45_code 5 (.if_icmp .ge 12) 12 8 17 := by decide +kernel
theorem d_M_byteAt_8 : dI prog_8_method_45_code 8 (.aload_n 0) 1 9 := by decide +kernel
theorem d_M_byteAt_9 : dI prog_8_method_45_code 9 (.getfield 22) 3 12 := by decide +kernel
theorem d_M_byteAt_12 : dI prog_8_method_45_code 12 (.iload_n 1) 1 13 := by decide +kernel
theorem d_M_byteAt_13 : dI prog_8_method_45_code 13 .iaload 1 14 := by decide +kernel
theorem d_M_byteAt_14 : dJ prog_8_method_45_code 14 (.goto 4) 4 17 18 := by decide +kernel
theorem d_M_byteAt_17 : dI prog_8_method_45_code 17 (.iconst (-1)) 1 18 ∧ Int32.ofInt (-1) = (-1) := by decide +kernel
theorem d_M_byteAt_18 : decode prog_8_method_45_code 18 = .ok (.ireturn, 1) := by decide +kernel
theorem d_M_next_0 : dI prog_8_method_46_code 0 (.aload_n 0) 1 1 := by decide +kernel
theorem d_M_next_1 : dI prog_8_method_46_code 1 (.aload_n 0) 1 2 := by decide +kernel
theorem d_M_next_2 : dI prog_8_method_46_code 2 (.getfield 140) 3 5 := by decide +kernel
theorem d_M_next_5 : dI prog_8_method_46_code 5 (.invokevirtual 143) 3 8 := by decide +kernel
theorem d_M_next_8 : dI prog_8_method_46_code 8 (.bipush 32) 2 10 ∧ (Int8.ofInt 32).toInt32 = 32 := by decide +kernel
theorem d_M_next_10 : dJ prog_8_method_46_code 10 (.if_icmp .ne 16) 16 13 26 := by decide +kernel
theorem d_M_next_13 : dI prog_8_method_46_code 13 (.aload_n 0) 1 14 := by decide +kernel
theorem d_M_next_14 : dI prog_8_method_46_code 14 .dup 1 15 := by decide +kernel
theorem d_M_next_15 : dI prog_8_method_46_code 15 (.getfield 140) 3 18 := by decide +kernel
theorem d_M_next_18 : dI prog_8_method_46_code 18 (.iconst 1) 1 19 ∧ Int32.ofInt 1 = 1 := by decide +kernel
theorem d_M_next_19 : dI prog_8_method_46_code 19 .iadd 1 20 := by decide +kernel
theorem d_M_next_20 : dI prog_8_method_46_code 20 (.putfield 140) 3 23 := by decide +kernel
theorem d_M_next_23 : dJ prog_8_method_46_code 23 (.goto (-23)) (-23) 26 0 := by decide +kernel
theorem d_M_next_26 : dI prog_8_method_46_code 26 (.aload_n 0) 1 27 := by decide +kernel
theorem d_M_next_27 : dI prog_8_method_46_code 27 (.aload_n 0) 1 28 := by decide +kernel
theorem d_M_next_28 : dI prog_8_method_46_code 28 (.getfield 140) 3 31 := by decide +kernel
theorem d_M_next_31 : dI prog_8_method_46_code 31 (.putfield 146) 3 34 := by decide +kernel
theorem d_M_next_34 : dI prog_8_method_46_code 34 (.aload_n 0) 1 35 := by decide +kernel
theorem d_M_next_35 : dI prog_8_method_46_code 35 (.aload_n 0) 1 36 := by decide +kernel
theorem d_M_next_36 : dI prog_8_method_46_code 36 (.getfield 140) 3 39 := by decide +kernel
theorem d_M_next_39 : dI prog_8_method_46_code 39 (.invokevirtual 143) 3 42 := by decide +kernel
theorem d_M_next_42 : dI prog_8_method_46_code 42 (.istore_n 1) 1 43 := by decide +kernel
theorem d_M_next_43 : dI prog_8_method_46_code 43 (.iload_n 1) 1 44 := by decide +kernel
theorem d_M_next_44 : dJ prog_8_method_46_code 44 (.ifCond .ge 11) 11 47 55 := by decide +kernel
theorem d_M_next_47 : dI prog_8_method_46_code 47 (.aload_n 0) 1 48 := by decide +kernel
theorem d_M_next_48 : dI prog_8_method_46_code 48 (.iconst 0) 1 49 ∧ Int32.ofInt 0 = 0 := by decide +kernel
theorem d_M_next_49 : dI prog_8_method_46_code 49 (.putfield 149) 3 52 := by decide +kernel
theorem d_M_next_52 : dJ prog_8_method_46_code 52 (.goto 167) 167 55 219 := by decide +kernel
theorem d_M_next_55 : dI prog_8_method_46_code 55 (.iload_n 1) 1 56 := by decide +kernel
theorem d_M_next_56 : dI prog_8_method_46_code 56 (.bipush 97) 2 58 ∧ (Int8.ofInt 97).toInt32 = 97 := by decide +kernel
theorem d_M_next_58 : dI prog_8_method_46_code 58 (.bipush 122) 2 60 ∧ (Int8.ofInt 122).toInt32 = 122 := by decide +kernel
theorem d_M_next_60 : dI prog_8_method_46_code 60 (.invokestatic 45) 3 63 := by decide +kernel
theorem d_M_next_63 : dJ prog_8_method_46_code 63 (.ifCond .eq 39) 39 66 102 := by decide +kernel
theorem d_M_next_66 : dI prog_8_method_46_code 66 (.aload_n 0) 1 67 := by decide +kernel
theorem d_M_next_67 : dI prog_8_method_46_code 67 (.iconst 1) 1 68 ∧ Int32.ofInt 1 = 1 := by decide +kernel
theorem d_M_next_68 : dI prog_8_method_46_code 68 (.putfield 149) 3 71 := by decide +kernel
theorem d_M_next_71 : dI prog_8_method_46_code 71 (.aload_n 0) 1 72 := by decide +kernel
theorem d_M_next_72 : dI prog_8_method_46_code 72 (.aload_n 0) 1 73 := by decide +kernel
theorem d_M_next_73 : dI prog_8_method_46_code 73 (.getfield 140) 3 76 := by decide +kernel
theorem d_M_next_76 : dI prog_8_method_46_code 76 (.invokevirtual 143) 3 79 := by decide +kernel
theorem d_M_next_79 : dI prog_8_method_46_code 79 (.bipush 97) 2 81 ∧ (Int8.ofInt 97).toInt32 = 97 := by decide +kernel
theorem d_M_next_81 : dI prog_8_method_46_code 81 (.bipush 122) 2 83 ∧ (Int8.ofInt 122).toInt32 = 122 := by decide +kernel
theorem d_M_next_83 : dI prog_8_method_46_code 83 (.invokestatic 45) 3 86 := by decide +kernel
theorem d_M_next_86 : dJ prog_8_method_46_code 86 (.ifCond .eq 133) 133 89 219 := by decide +kernel
theorem d_M_next_89 : dI prog_8_method_46_code 89 (.aload_n 0) 1 90 := by decide +kernel
theorem d_M_next_90 : dI prog_8_method_46_code 90 .dup 1 91 := by decide +kernel
theorem d_M_next_91 : dI prog_8_method_46_code 91 (.getfield 140) 3 94 := by decide +kernel
theorem d_M_next_94 : dI prog_8_method_46_code 94 (.iconst 1) 1 95 ∧ Int32.ofInt 1 = 1 := by decide +kernel
theorem d_M_next_95 : dI prog_8_method_46_code 95 .iadd 1 96 := by decide +kernel
theorem d_M_next_96 : dI prog_8_method_46_code 96 (.putfield 140) 3 99 := by decide +kernel
theorem d_M_next_99 : dJ prog_8_method_46_code 99 (.goto (-28)) (-28) 102 71 := by decide +kernel
theorem d_M_next_102 : dI prog_8_method_46_code 102 (.iload_n 1) 1 103 := by decide +kernel
theorem d_M_next_103 : dI prog_8_method_46_code 103 (.bipush 48) 2 105 ∧ (Int8.ofInt 48).toInt32 = 48 := by decide +kernel
theorem d_M_next_105 : dI prog_8_method_46_code 105 (.bipush 57) 2 107 ∧ (Int8.ofInt 57).toInt32 = 57 := by decide +kernel
theorem d_M_next_107 : dI prog_8_method_46_code 107 (.invokestatic 45) 3 110 := by decide +kernel
theorem d_M_next_110 : dJ prog_8_method_46_code 110 (.ifCond .eq 84) 84 113 194 := by decide +kernel
theorem d_M_next_113 : dI prog_8_method_46_code 113 (.aload_n 0) 1 114 := by decide +kernel
theorem d_M_next_114 : dI prog_8_method_46_code 114 (.iconst 2) 1 115 ∧ Int32.ofInt 2 = 2 := by decide +kernel
theorem d_M_next_115 : dI prog_8_method_46_code 115 (.putfield 149) 3 118 := by decide +kernel
theorem d_M_next_118 : dI prog_8_method_46_code 118 (.aload_n 0) 1 119 := by decide +kernel
theorem d_M_next_119 : dI prog_8_method_46_code 119 (.iconst 0) 1 120 ∧ Int32.ofInt 0 = 0 := by decide +kernel
theorem d_M_next_120 : dI prog_8_method_46_code 120 (.putfield 152) 3 123 := by decide +kernel
theorem d_M_next_123 : dI prog_8_method_46_code 123 (.aload_n 0) 1 124 := by decide +kernel
theorem d_M_next_124 : dI prog_8_method_46_code 124 (.aload_n 0) 1 125 := by decide +kernel
theorem d_M_next_125 : dI prog_8_method_46_code 125 (.getfield 140) 3 128 := by decide +kernel
theorem d_M_next_128 : dI prog_8_method_46_code 128 (.invokevirtual 143) 3 131 := by decide +kernel
theorem d_M_next_131 : dI prog_8_method_46_code 131 (.bipush 48) 2 133 ∧ (Int8.ofInt 48).toInt32 = 48 := by decide +kernel
theorem d_M_next_133 : dI prog_8_method_46_code 133 (.bipush 57) 2 135 ∧ (Int8.ofInt 57).toInt32 = 57 := by decide +kernel
theorem d_M_next_135 : dI prog_8_method_46_code 135 (.invokestatic 45) 3 138 := by decide +kernel
theorem d_M_next_138 : dJ prog_8_method_46_code 138 (.ifCond .eq 81) 81 141 219 := by decide +kernel
theorem d_M_next_141 : dI prog_8_method_46_code 141 (.aload_n 0) 1 142 := by decide +kernel
theorem d_M_next_142 : dI prog_8_method_46_code 142 (.aload_n 0) 1 143 := by decide +kernel
theorem d_M_next_143 : dI prog_8_method_46_code 143 (.getfield 152) 3 146 := by decide +kernel
theorem d_M_next_146 : dI prog_8_method_46_code 146 (.sipush 9999) 3 149 ∧ (Int16.ofInt 9999).toInt32 = 9999 := by decide +kernel
theorem d_M_next_149 : dJ prog_8_method_46_code 149 (.if_icmp .le 10) 10 152 159 := by decide +kernel
theorem d_M_next_152 : dI prog_8_method_46_code 152 (.aload_n 0) 1 153 := by decide +kernel
theorem d_M_next_153 : dI prog_8_method_46_code 153 (.getfield 152) 3 156 := by decide +kernel
theorem d_M_next_156 : dJ prog_8_method_46_code 156 (.goto 22) 22 159 178 := by decide +kernel
theorem d_M_next_159 : dI prog_8_method_46_code 159 (.bipush 10) 2 161 ∧ (Int8.ofInt 10).toInt32 = 10 := by decide +kernel
theorem d_M_next_161 : dI prog_8_method_46_code 161 (.aload_n 0) 1 162 := by decide +kernel
theorem d_M_next_162 : dI prog_8_method_46_code 162 (.getfield 152) 3 165 := by decide +kernel
theorem d_M_next_165 : dI prog_8_method_46_code 165 .imul 1 166 := by decide +kernel
theorem d_M_next_166 : dI prog_8_method_46_code 166 (.aload_n 0) 1 167 := by decide +kernel
theorem d_M_next_167 : dI prog_8_method_46_code 167 (.aload_n 0) 1 168 := by decide +kernel
theorem d_M_next_168 : dI prog_8_method_46_code 168 (.getfield 140) 3 171 := by decide +kernel
theorem d_M_next_171 : dI prog_8_method_46_code 171 (.invokevirtual 143) 3 174 := by decide +kernel
theorem d_M_next_174 : dI prog_8_method_46_code 174 .iadd 1 175 := by decide +kernel
theorem d_M_next_175 : dI prog_8_method_46_code 175 (.bipush 48) 2 177 ∧ (Int8.ofInt 48).toInt32 = 48 := by decide +kernel
theorem d_M_next_177 : dI prog_8_method_46_code 177 .isub 1 178 := by decide +kernel
theorem d_M_next_178 : dI prog_8_method_46_code 178 (.putfield 152) 3 181 := by decide +kernel
theorem d_M_next_181 : dI prog_8_method_46_code 181 (.aload_n 0) 1 182 := by decide +kernel
theorem d_M_next_182 : dI prog_8_method_46_code 182 .dup 1 183 := by decide +kernel
theorem d_M_next_183 : dI prog_8_method_46_code 183 (.getfield 140) 3 186 := by decide +kernel
theorem d_M_next_186 : dI prog_8_method_46_code 186 (.iconst 1) 1 187 ∧ Int32.ofInt 1 = 1 := by decide +kernel
theorem d_M_next_187 : dI prog_8_method_46_code 187 .iadd 1 188 := by decide +kernel
theorem d_M_next_188 : dI prog_8_method_46_code 188 (.putfield 140) 3 191 := by decide +kernel
theorem d_M_next_191 : dJ prog_8_method_46_code 191 (.goto (-68)) (-68) 194 123 := by decide +kernel
theorem d_M_next_194 : dI prog_8_method_46_code 194 (.aload_n 0) 1 195 := by decide +kernel
theorem d_M_next_195 : dI prog_8_method_46_code 195 (.iload_n 1) 1 196 := by decide +kernel
theorem d_M_next_196 : dI prog_8_method_46_code 196 (.bipush 59) 2 198 ∧ (Int8.ofInt 59).toInt32 = 59 := by decide +kernel
theorem d_M_next_198 : dJ prog_8_method_46_code 198 (.if_icmp .ne 7) 7 201 205 := by decide +kernel
theorem d_M_next_201 : dI prog_8_method_46_code 201 (.iconst 3) 1 202 ∧ Int32.ofInt 3 = 3 := by decide +kernel
theorem d_M_next_202 : dJ prog_8_method_46_code 202 (.goto 4) 4 205 206 := by decide +kernel
theorem d_M_next_205 : dI prog_8_method_46_code 205 (.iconst 4) 1 206 ∧ Int32.ofInt 4 = 4 := by decide +kernel
theorem d_M_next_206 : dI prog_8_method_46_code 206 (.putfield 149) 3 209 := by decide +kernel
theorem d_M_next_209 : dI prog_8_method_46_code 209 (.aload_n 0) 1 210 := by decide +kernel
theorem d_M_next_210 : dI prog_8_method_46_code 210 .dup 1 211 := by decide +kernel
theorem d_M_next_211 : dI prog_8_method_46_code 211 (.getfield 140) 3 214 := by decide +kernel
theorem d_M_next_214 : dI prog_8_method_46_code 214 (.iconst 1) 1 215 ∧ Int32.ofInt 1 = 1 := by decide +kernel
theorem d_M_next_215 : dI prog_8_method_46_code 215 .iadd 1 216 := by decide +kernel
theorem d_M_next_216 : dI prog_8_method_46_code 216 (.putfield 140) 3 219 := by decide +kernel
theorem d_M_next_219 : decode prog_8_method_46_code 219 = .ok (.return_, 1) := by decide +kernel
theorem d_M_isWord_0 : dI prog_8_method_47_code 0 (.aload_n 0) 1 1 := by decide +kernel
theorem d_M_isWord_1 : dI prog_8_method_47_code 1 (.getfield 149) 3 4 := by decide +kernel
theorem d_M_isWord_4 : dI prog_8_method_47_code 4 (.iconst 1) 1 5 ∧ Int32.ofInt 1 = 1 := by decide +kernel
theorem d_M_isWord_5 : dJ prog_8_method_47_code 5 (.if_icmp .ne 23) 23 8 28 := by decide +kernel
theorem d_M_isWord_8 : dI prog_8_method_47_code 8 (.aload_n 0) 1 9 := by decide +kernel
theorem d_M_isWord_9 : dI prog_8_method_47_code 9 (.getfield 140) 3 12 := by decide +kernel
theorem d_M_isWord_12 : dI prog_8_method_47_code 12 (.aload_n 0) 1 13 := by decide +kernel
theorem d_M_isWord_13 : dI prog_8_method_47_code 13 (.getfield 146) 3 16 := by decide +kernel
theorem d_M_isWord_16 : dI prog_8_method_47_code 16 .isub 1 17 := by decide +kernel
theorem d_M_isWord_17 : dI prog_8_method_47_code 17 (.aload_n 1) 1 18 := by decide +kernel
theorem d_M_isWord_18 : dI prog_8_method_47_code 18 (.invokevirtual 155) 3 21 := by decide +kernel
theorem d_M_isWord_21 : dJ prog_8_method_47_code 21 (.if_icmp .ne 7) 7 24 28 := by decide +kernel
theorem d_M_isWord_24 : dI prog_8_method_47_code 24 (.iconst 1) 1 25 ∧ Int32.ofInt 1 = 1 := by decide +kernel
theorem d_M_isWord_25 : dJ prog_8_method_47_code 25 (.goto 4) 4 28 29 := by decide +kernel
theorem d_M_isWord_28 : dI prog_8_method_47_code 28 (.iconst 0) 1 29 ∧ Int32.ofInt 0 = 0 := by decide +kernel
theorem d_M_isWord_29 : dI prog_8_method_47_code 29 (.istore_n 2) 1 30 := by decide +kernel
theorem d_M_isWord_30 : dI prog_8_method_47_code 30 (.iconst 0) 1 31 ∧ Int32.ofInt 0 = 0 := by decide +kernel
theorem d_M_isWord_31 : dI prog_8_method_47_code 31 (.istore_n 3) 1 32 := by decide +kernel
theorem d_M_isWord_32 : dI prog_8_method_47_code 32 (.iload_n 3) 1 33 := by decide +kernel
theorem d_M_isWord_33 : dI prog_8_method_47_code 33 (.aload_n 1) 1 34 := by decide +kernel
theorem d_M_isWord_34 : dI prog_8_method_47_code 34 (.invokevirtual 155) 3 37 := by decide +kernel
theorem d_M_isWord_37 : dJ prog_8_method_47_code 37 (.if_icmp .ge 38) 38 40 75 := by decide +kernel
theorem d_M_isWord_40 : dI prog_8_method_47_code 40 (.iload_n 2) 1 41 := by decide +kernel
theorem d_M_isWord_41 : dJ prog_8_method_47_code 41 (.ifCond .eq 34) 34 44 75 := by decide +kernel
theorem d_M_isWord_44 : dI prog_8_method_47_code 44 (.aload_n 0) 1 45 := by decide +kernel
theorem d_M_isWord_45 : dI prog_8_method_47_code 45 (.getfield 22) 3 48 := by decide +kernel
theorem d_M_isWord_48 : dI prog_8_method_47_code 48 (.aload_n 0) 1 49 := by decide +kernel
theorem d_M_isWord_49 : dI prog_8_method_47_code 49 (.getfield 146) 3 52 := by decide +kernel
theorem d_M_isWord_52 : dI prog_8_method_47_code 52 (.iload_n 3) 1 53 := by decide +kernel
theorem d_M_isWord_53 : dI prog_8_method_47_code 53 .iadd 1 54 := by decide +kernel
theorem d_M_isWord_54 : dI prog_8_method_47_code 54 .iaload 1 55 := by decide +kernel
theorem d_M_isWord_55 : dI prog_8_method_47_code 55 (.aload_n 1) 1 56 := by decide +kernel
end
section
theorem d_M_isWord_56 : dI prog_8_method_47_code 56 (.iload_n 3) 1 57 := by decide +kernel
theorem d_M_isWord_57 : dI prog_8_method_47_code 57 (.invokevirtual 160) 3 60 := by decide +kernel
theorem d_M_isWord_60 : dJ prog_8_method_47_code 60 (.if_icmp .ne 7) 7 63 67 := by decide +kernel
theorem d_M_isWord_63 : dI prog_8_method_47_code 63 (.iconst 1) 1 64 ∧ Int32.ofInt 1 = 1 := by decide +kernel
theorem d_M_isWord_64 : dJ prog_8_method_47_code 64 (.goto 4) 4 67 68 := by decide +kernel
theorem d_M_isWord_67 : dI prog_8_method_47_code 67 (.iconst 0) 1 68 ∧ Int32.ofInt 0 = 0 := by decide +kernel
theorem d_M_isWord_68 : dI prog_8_method_47_code 68 (.istore_n 2) 1 69 := by decide +kernel
theorem d_M_isWord_69 : dI prog_8_method_47_code 69 (.iinc 3 1) 3 72 ∧ Int32.ofInt 1 = 1 := by decide +kernel
theorem d_M_isWord_72 : dJ prog_8_method_47_code 72 (.goto (-40)) (-40) 75 32 := by decide +kernel
theorem d_M_isWord_75 : dI prog_8_method_47_code 75 (.iload_n 2) 1 76 := by decide +kernel
theorem d_M_isWord_76 : decode prog_8_method_47_code 76 = .ok (.ireturn, 1) := by decide +kernel
theorem d_M_isNumber_0 : dI prog_8_method_48_code 0 (.aload_n 0) 1 1 := by decide +kernel
theorem d_M_isNumber_1 : dI prog_8_method_48_code 1 (.getfield 149) 3 4 := by decide +kernel
theorem d_M_isNumber_4 : dI prog_8_method_48_code 4 (.iconst 2) 1 5 ∧ Int32.ofInt 2 = 2 := by decide +kernel
theorem d_M_isNumber_5 : dJ prog_8_method_48_code 5 (.if_icmp .ne 19) 19 8 24 := by decide +kernel
theorem d_M_isNumber_8 : dI prog_8_method_48_code 8 (.aload_n 0) 1 9 := by decide +kernel
theorem d_M_isNumber_9 : dI prog_8_method_48_code 9 (.getfield 152) 3 12 := by decide +kernel
theorem d_M_isNumber_12 : dI prog_8_method_48_code 12 (.iload_n 1) 1 13 := by decide +kernel
theorem d_M_isNumber_13 : dI prog_8_method_48_code 13 (.iload_n 2) 1 14 := by decide +kernel
theorem d_M_isNumber_14 : dI prog_8_method_48_code 14 (.invokestatic 45) 3 17 := by decide +kernel
theorem d_M_isNumber_17 : dJ prog_8_method_48_code 17 (.ifCond .eq 7) 7 20 24 := by decide +kernel
theorem d_M_isNumber_20 : dI prog_8_method_48_code 20 (.iconst 1) 1 21 ∧ Int32.ofInt 1 = 1 := by decide +kernel
theorem d_M_isNumber_21 : dJ prog_8_method_48_code 21 (.goto 4) 4 24 25 := by decide +kernel
theorem d_M_isNumber_24 : dI prog_8_method_48_code 24 (.iconst 0) 1 25 ∧ Int32.ofInt 0 = 0 := by decide +kernel
theorem d_M_isNumber_25 : decode prog_8_method_48_code 25 = .ok (.ireturn, 1) := by decide +kernel
theorem d_M_takesSand_0 : dI prog_8_method_49_code 0 (.aload_n 0) 1 1 := by decide +kernel
theorem d_M_takesSand_1 : dI prog_8_method_49_code 1 (.invokevirtual 164) 3 4 := by decide +kernel
theorem d_M_takesSand_4 : dI prog_8_method_49_code 4 (.aload_n 0) 1 5 := by decide +kernel
theorem d_M_takesSand_5 : dI prog_8_method_49_code 5 (.iconst 0) 1 6 ∧ Int32.ofInt 0 = 0 := by decide +kernel
theorem d_M_takesSand_6 : dI prog_8_method_49_code 6 (.bipush 39) 2 8 ∧ (Int8.ofInt 39).toInt32 = 39 := by decide +kernel
theorem d_M_takesSand_8 : dI prog_8_method_49_code 8 (.invokevirtual 167) 3 11 := by decide +kernel
theorem d_M_takesSand_11 : dJ prog_8_method_49_code 11 (.ifCond .ne 5) 5 14 16 := by decide +kernel
theorem d_M_takesSand_14 : dI prog_8_method_49_code 14 (.iconst 0) 1 15 ∧ Int32.ofInt 0 = 0 := by decide +kernel
theorem d_M_takesSand_15 : decode prog_8_method_49_code 15 = .ok (.ireturn, 1) := by decide +kernel
theorem d_M_takesSand_16 : dI prog_8_method_49_code 16 (.aload_n 0) 1 17 := by decide +kernel
theorem d_M_takesSand_17 : dI prog_8_method_49_code 17 (.getfield 152) 3 20 := by decide +kernel
theorem d_M_takesSand_20 : dI prog_8_method_49_code 20 (.istore_n 1) 1 21 := by decide +kernel
theorem d_M_takesSand_21 : dI prog_8_method_49_code 21 (.iconst 0) 1 22 ∧ Int32.ofInt 0 = 0 := by decide +kernel
theorem d_M_takesSand_22 : dI prog_8_method_49_code 22 (.istore_n 2) 1 23 := by decide +kernel
theorem d_M_takesSand_23 : dI prog_8_method_49_code 23 (.aload_n 0) 1 24 := by decide +kernel
theorem d_M_takesSand_24 : dI prog_8_method_49_code 24 (.invokevirtual 164) 3 27 := by decide +kernel
theorem d_M_takesSand_27 : dI prog_8_method_49_code 27 (.aload_n 0) 1 28 := by decide +kernel
theorem d_M_takesSand_28 : dI prog_8_method_49_code 28 (.iconst 0) 1 29 ∧ Int32.ofInt 0 = 0 := by decide +kernel
theorem d_M_takesSand_29 : dI prog_8_method_49_code 29 (.bipush 99) 2 31 ∧ (Int8.ofInt 99).toInt32 = 99 := by decide +kernel
theorem d_M_takesSand_31 : dI prog_8_method_49_code 31 (.invokevirtual 167) 3 34 := by decide +kernel
theorem d_M_takesSand_34 : dJ prog_8_method_49_code 34 (.ifCond .eq 35) 35 37 69 := by decide +kernel
theorem d_M_takesSand_37 : dI prog_8_method_49_code 37 (.iload_n 1) 1 38 := by decide +kernel
theorem d_M_takesSand_38 : dI prog_8_method_49_code 38 (.bipush 40) 2 40 ∧ (Int8.ofInt 40).toInt32 = 40 := by decide +kernel
theorem d_M_takesSand_40 : dJ prog_8_method_49_code 40 (.if_icmp .ge 29) 29 43 69 := by decide +kernel
theorem d_M_takesSand_43 : dI prog_8_method_49_code 43 (.aload_n 0) 1 44 := by decide +kernel
theorem d_M_takesSand_44 : dI prog_8_method_49_code 44 (.getfield 7) 3 47 := by decide +kernel
theorem d_M_takesSand_47 : dI prog_8_method_49_code 47 (.bipush 12) 2 49 ∧ (Int8.ofInt 12).toInt32 = 12 := by decide +kernel
theorem d_M_takesSand_49 : dI prog_8_method_49_code 49 (.iload_n 1) 1 50 := by decide +kernel
theorem d_M_takesSand_50 : dI prog_8_method_49_code 50 .iadd 1 51 := by decide +kernel
theorem d_M_takesSand_51 : dI prog_8_method_49_code 51 (.aload_n 0) 1 52 := by decide +kernel
theorem d_M_takesSand_52 : dI prog_8_method_49_code 52 (.getfield 152) 3 55 := by decide +kernel
theorem d_M_takesSand_55 : dI prog_8_method_49_code 55 .iastore 1 56 := by decide +kernel
theorem d_M_takesSand_56 : dI prog_8_method_49_code 56 (.iinc 1 1) 3 59 ∧ Int32.ofInt 1 = 1 := by decide +kernel
theorem d_M_takesSand_59 : dI prog_8_method_49_code 59 (.iinc 2 1) 3 62 ∧ Int32.ofInt 1 = 1 := by decide +kernel
theorem d_M_takesSand_62 : dI prog_8_method_49_code 62 (.aload_n 0) 1 63 := by decide +kernel
theorem d_M_takesSand_63 : dI prog_8_method_49_code 63 (.invokevirtual 164) 3 66 := by decide +kernel
theorem d_M_takesSand_66 : dJ prog_8_method_49_code 66 (.goto (-39)) (-39) 69 27 := by decide +kernel
theorem d_M_takesSand_69 : dI prog_8_method_49_code 69 (.iload_n 2) 1 70 := by decide +kernel
theorem d_M_takesSand_70 : dJ prog_8_method_49_code 70 (.ifCond .le 15) 15 73 85 := by decide +kernel
theorem d_M_takesSand_73 : dI prog_8_method_49_code 73 (.aload_n 0) 1 74 := by decide +kernel
theorem d_M_takesSand_74 : dI prog_8_method_49_code 74 (.getfield 149) 3 77 := by decide +kernel
theorem d_M_takesSand_77 : dI prog_8_method_49_code 77 (.iconst 2) 1 78 ∧ Int32.ofInt 2 = 2 := by decide +kernel
theorem d_M_takesSand_78 : dJ prog_8_method_49_code 78 (.if_icmp .eq 7) 7 81 85 := by decide +kernel
theorem d_M_takesSand_81 : dI prog_8_method_49_code 81 (.iconst 1) 1 82 ∧ Int32.ofInt 1 = 1 := by decide +kernel
theorem d_M_takesSand_82 : dJ prog_8_method_49_code 82 (.goto 4) 4 85 86 := by decide +kernel
theorem d_M_takesSand_85 : dI prog_8_method_49_code 85 (.iconst 0) 1 86 ∧ Int32.ofInt 0 = 0 := by decide +kernel
theorem d_M_takesSand_86 : decode prog_8_method_49_code 86 = .ok (.ireturn, 1) := by decide +kernel
theorem d_M_takesSet_0 : dI prog_8_method_50_code 0 (.aload_n 0) 1 1 := by decide +kernel
theorem d_M_takesSet_1 : dI prog_8_method_50_code 1 (.invokevirtual 164) 3 4 := by decide +kernel
theorem d_M_takesSet_4 : dI prog_8_method_50_code 4 (.aload_n 0) 1 5 := by decide +kernel
theorem d_M_takesSet_5 : dI prog_8_method_50_code 5 (.getfield 149) 3 8 := by decide +kernel
theorem d_M_takesSet_8 : dI prog_8_method_50_code 8 (.iconst 2) 1 9 ∧ Int32.ofInt 2 = 2 := by decide +kernel
theorem d_M_takesSet_9 : dJ prog_8_method_50_code 9 (.if_icmp .ne 14) 14 12 23 := by decide +kernel
theorem d_M_takesSet_12 : dI prog_8_method_50_code 12 (.iload_n 1) 1 13 := by decide +kernel
theorem d_M_takesSet_13 : dI prog_8_method_50_code 13 (.aload_n 0) 1 14 := by decide +kernel
theorem d_M_takesSet_14 : dI prog_8_method_50_code 14 (.getfield 152) 3 17 := by decide +kernel
theorem d_M_takesSet_17 : dI prog_8_method_50_code 17 (.invokestatic 71) 3 20 := by decide +kernel
theorem d_M_takesSet_20 : dJ prog_8_method_50_code 20 (.ifCond .ne 5) 5 23 25 := by decide +kernel
theorem d_M_takesSet_23 : dI prog_8_method_50_code 23 (.iconst 0) 1 24 ∧ Int32.ofInt 0 = 0 := by decide +kernel
theorem d_M_takesSet_24 : decode prog_8_method_50_code 24 = .ok (.ireturn, 1) := by decide +kernel
theorem d_M_takesSet_25 : dI prog_8_method_50_code 25 (.aload_n 0) 1 26 := by decide +kernel
theorem d_M_takesSet_26 : dI prog_8_method_50_code 26 (.getfield 7) 3 29 := by decide +kernel
theorem d_M_takesSet_29 : dI prog_8_method_50_code 29 (.iload_n 1) 1 30 := by decide +kernel
theorem d_M_takesSet_30 : dI prog_8_method_50_code 30 (.aload_n 0) 1 31 := by decide +kernel
theorem d_M_takesSet_31 : dI prog_8_method_50_code 31 (.getfield 152) 3 34 := by decide +kernel
theorem d_M_takesSet_34 : dI prog_8_method_50_code 34 .iastore 1 35 := by decide +kernel
theorem d_M_takesSet_35 : dI prog_8_method_50_code 35 (.aload_n 0) 1 36 := by decide +kernel
theorem d_M_takesSet_36 : dI prog_8_method_50_code 36 (.invokevirtual 164) 3 39 := by decide +kernel
theorem d_M_takesSet_39 : dI prog_8_method_50_code 39 (.iconst 1) 1 40 ∧ Int32.ofInt 1 = 1 := by decide +kernel
theorem d_M_takesSet_40 : decode prog_8_method_50_code 40 = .ok (.ireturn, 1) := by decide +kernel
theorem d_M_takesKind_0 : dI prog_8_method_51_code 0 (.aload_n 0) 1 1 := by decide +kernel
theorem d_M_takesKind_1 : dI prog_8_method_51_code 1 (.getfield 7) 3 4 := by decide +kernel
theorem d_M_takesKind_4 : dI prog_8_method_51_code 4 (.bipush 11) 2 6 ∧ (Int8.ofInt 11).toInt32 = 11 := by decide +kernel
theorem d_M_takesKind_6 : dI prog_8_method_51_code 6 .iaload 1 7 := by decide +kernel
theorem d_M_takesKind_7 : dI prog_8_method_51_code 7 (.bipush 20) 2 9 ∧ (Int8.ofInt 20).toInt32 = 20 := by decide +kernel
theorem d_M_takesKind_9 : dJ prog_8_method_51_code 9 (.if_icmp .ne 5) 5 12 14 := by decide +kernel
theorem d_M_takesKind_12 : dI prog_8_method_51_code 12 (.iconst 0) 1 13 ∧ Int32.ofInt 0 = 0 := by decide +kernel
theorem d_M_takesKind_13 : decode prog_8_method_51_code 13 = .ok (.ireturn, 1) := by decide +kernel
theorem d_M_takesKind_14 : dI prog_8_method_51_code 14 (.aload_n 0) 1 15 := by decide +kernel
theorem d_M_takesKind_15 : dI prog_8_method_51_code 15 (.invokevirtual 164) 3 18 := by decide +kernel
theorem d_M_takesKind_18 : dI prog_8_method_51_code 18 (.iconst 1) 1 19 ∧ Int32.ofInt 1 = 1 := by decide +kernel
theorem d_M_takesKind_19 : dI prog_8_method_51_code 19 (.istore_n 2) 1 20 := by decide +kernel
theorem d_M_takesKind_20 : dI prog_8_method_51_code 20 (.aload_n 0) 1 21 := by decide +kernel
theorem d_M_takesKind_21 : dI prog_8_method_51_code 21 (.getfield 149) 3 24 := by decide +kernel
theorem d_M_takesKind_24 : dI prog_8_method_51_code 24 (.iconst 2) 1 25 ∧ Int32.ofInt 2 = 2 := by decide +kernel
theorem d_M_takesKind_25 : dJ prog_8_method_51_code 25 (.if_icmp .ne 38) 38 28 63 := by decide +kernel
theorem d_M_takesKind_28 : dI prog_8_method_51_code 28 (.aload_n 0) 1 29 := by decide +kernel
theorem d_M_takesKind_29 : dI prog_8_method_51_code 29 (.getfield 152) 3 32 := by decide +kernel
theorem d_M_takesKind_32 : dI prog_8_method_51_code 32 (.istore_n 2) 1 33 := by decide +kernel
theorem d_M_takesKind_33 : dI prog_8_method_51_code 33 (.iload_n 2) 1 34 := by decide +kernel
theorem d_M_takesKind_34 : dI prog_8_method_51_code 34 (.iconst 1) 1 35 ∧ Int32.ofInt 1 = 1 := by decide +kernel
theorem d_M_takesKind_35 : dI prog_8_method_51_code 35 (.bipush 9) 2 37 ∧ (Int8.ofInt 9).toInt32 = 9 := by decide +kernel
theorem d_M_takesKind_37 : dI prog_8_method_51_code 37 (.invokestatic 45) 3 40 := by decide +kernel
theorem d_M_takesKind_40 : dJ prog_8_method_51_code 40 (.ifCond .eq 17) 17 43 57 := by decide +kernel
theorem d_M_takesKind_43 : dI prog_8_method_51_code 43 (.aload_n 0) 1 44 := by decide +kernel
theorem d_M_takesKind_44 : dI prog_8_method_51_code 44 (.getfield 7) 3 47 := by decide +kernel
theorem d_M_takesKind_47 : dI prog_8_method_51_code 47 (.bipush 11) 2 49 ∧ (Int8.ofInt 11).toInt32 = 11 := by decide +kernel
theorem d_M_takesKind_49 : dI prog_8_method_51_code 49 .iaload 1 50 := by decide +kernel
theorem d_M_takesKind_50 : dI prog_8_method_51_code 50 (.iload_n 2) 1 51 := by decide +kernel
theorem d_M_takesKind_51 : dI prog_8_method_51_code 51 .iadd 1 52 := by decide +kernel
theorem d_M_takesKind_52 : dI prog_8_method_51_code 52 (.bipush 20) 2 54 ∧ (Int8.ofInt 20).toInt32 = 20 := by decide +kernel
theorem d_M_takesKind_54 : dJ prog_8_method_51_code 54 (.if_icmp .le 5) 5 57 59 := by decide +kernel
theorem d_M_takesKind_57 : dI prog_8_method_51_code 57 (.iconst 0) 1 58 ∧ Int32.ofInt 0 = 0 := by decide +kernel
theorem d_M_takesKind_58 : decode prog_8_method_51_code 58 = .ok (.ireturn, 1) := by decide +kernel
theorem d_M_takesKind_59 : dI prog_8_method_51_code 59 (.aload_n 0) 1 60 := by decide +kernel
theorem d_M_takesKind_60 : dI prog_8_method_51_code 60 (.invokevirtual 164) 3 63 := by decide +kernel
theorem d_M_takesKind_63 : dI prog_8_method_51_code 63 (.iconst 0) 1 64 ∧ Int32.ofInt 0 = 0 := by decide +kernel
theorem d_M_takesKind_64 : dI prog_8_method_51_code 64 (.istore_n 3) 1 65 := by decide +kernel
theorem d_M_takesKind_65 : dI prog_8_method_51_code 65 (.iload_n 3) 1 66 := by decide +kernel
theorem d_M_takesKind_66 : dI prog_8_method_51_code 66 (.iload_n 2) 1 67 := by decide +kernel
theorem d_M_takesKind_67 : dJ prog_8_method_51_code 67 (.if_icmp .ge 36) 36 70 103 := by decide +kernel
theorem d_M_takesKind_70 : dI prog_8_method_51_code 70 (.aload_n 0) 1 71 := by decide +kernel
theorem d_M_takesKind_71 : dI prog_8_method_51_code 71 (.getfield 7) 3 74 := by decide +kernel
theorem d_M_takesKind_74 : dI prog_8_method_51_code 74 (.bipush 72) 2 76 ∧ (Int8.ofInt 72).toInt32 = 72 := by decide +kernel
theorem d_M_takesKind_76 : dI prog_8_method_51_code 76 (.aload_n 0) 1 77 := by decide +kernel
theorem d_M_takesKind_77 : dI prog_8_method_51_code 77 (.getfield 7) 3 80 := by decide +kernel
theorem d_M_takesKind_80 : dI prog_8_method_51_code 80 (.bipush 11) 2 82 ∧ (Int8.ofInt 11).toInt32 = 11 := by decide +kernel
theorem d_M_takesKind_82 : dI prog_8_method_51_code 82 .iaload 1 83 := by decide +kernel
theorem d_M_takesKind_83 : dI prog_8_method_51_code 83 .iadd 1 84 := by decide +kernel
theorem d_M_takesKind_84 : dI prog_8_method_51_code 84 (.iload_n 1) 1 85 := by decide +kernel
theorem d_M_takesKind_85 : dI prog_8_method_51_code 85 .iastore 1 86 := by decide +kernel
theorem d_M_takesKind_86 : dI prog_8_method_51_code 86 (.aload_n 0) 1 87 := by decide +kernel
theorem d_M_takesKind_87 : dI prog_8_method_51_code 87 (.getfield 7) 3 90 := by decide +kernel
theorem d_M_takesKind_90 : dI prog_8_method_51_code 90 (.bipush 11) 2 92 ∧ (Int8.ofInt 11).toInt32 = 11 := by decide +kernel
theorem d_M_takesKind_92 : dI prog_8_method_51_code 92 .dup2 1 93 := by decide +kernel
theorem d_M_takesKind_93 : dI prog_8_method_51_code 93 .iaload 1 94 := by decide +kernel
theorem d_M_takesKind_94 : dI prog_8_method_51_code 94 (.iconst 1) 1 95 ∧ Int32.ofInt 1 = 1 := by decide +kernel
theorem d_M_takesKind_95 : dI prog_8_method_51_code 95 .iadd 1 96 := by decide +kernel
theorem d_M_takesKind_96 : dI prog_8_method_51_code 96 .iastore 1 97 := by decide +kernel
theorem d_M_takesKind_97 : dI prog_8_method_51_code 97 (.iinc 3 1) 3 100 ∧ Int32.ofInt 1 = 1 := by decide +kernel
theorem d_M_takesKind_100 : dJ prog_8_method_51_code 100 (.goto (-35)) (-35) 103 65 := by decide +kernel
theorem d_M_takesKind_103 : dI prog_8_method_51_code 103 (.iconst 1) 1 104 ∧ Int32.ofInt 1 = 1 := by decide +kernel
theorem d_M_takesKind_104 : decode prog_8_method_51_code 104 = .ok (.ireturn, 1) := by decide +kernel
theorem d_M_takesItem_0 : dI prog_8_method_52_code 0 (.aload_n 0) 1 1 := by decide +kernel
theorem d_M_takesItem_1 : dI prog_8_method_52_code 1 (.ldc 170) 2 3 := by decide +kernel
theorem d_M_takesItem_3 : dI prog_8_method_52_code 3 (.invokevirtual 172) 3 6 := by decide +kernel
theorem d_M_takesItem_6 : dJ prog_8_method_52_code 6 (.ifCond .eq 8) 8 9 14 := by decide +kernel
theorem d_M_takesItem_9 : dI prog_8_method_52_code 9 (.aload_n 0) 1 10 := by decide +kernel
theorem d_M_takesItem_10 : dI prog_8_method_52_code 10 (.invokevirtual 176) 3 13 := by decide +kernel
theorem d_M_takesItem_13 : decode prog_8_method_52_code 13 = .ok (.ireturn, 1) := by decide +kernel
theorem d_M_takesItem_14 : dI prog_8_method_52_code 14 (.aload_n 0) 1 15 := by decide +kernel
theorem d_M_takesItem_15 : dI prog_8_method_52_code 15 (.ldc 179) 2 17 := by decide +kernel
theorem d_M_takesItem_17 : dI prog_8_method_52_code 17 (.invokevirtual 172) 3 20 := by decide +kernel
theorem d_M_takesItem_20 : dJ prog_8_method_52_code 20 (.ifCond .eq 7) 7 23 27 := by decide +kernel
theorem d_M_takesItem_23 : dI prog_8_method_52_code 23 (.iconst 2) 1 24 ∧ Int32.ofInt 2 = 2 := by decide +kernel
theorem d_M_takesItem_24 : dJ prog_8_method_52_code 24 (.goto 57) 57 27 81 := by decide +kernel
theorem d_M_takesItem_27 : dI prog_8_method_52_code 27 (.aload_n 0) 1 28 := by decide +kernel
theorem d_M_takesItem_28 : dI prog_8_method_52_code 28 (.ldc 181) 2 30 := by decide +kernel
theorem d_M_takesItem_30 : dI prog_8_method_52_code 30 (.invokevirtual 172) 3 33 := by decide +kernel
theorem d_M_takesItem_33 : dJ prog_8_method_52_code 33 (.ifCond .eq 7) 7 36 40 := by decide +kernel
theorem d_M_takesItem_36 : dI prog_8_method_52_code 36 (.iconst 3) 1 37 ∧ Int32.ofInt 3 = 3 := by decide +kernel
theorem d_M_takesItem_37 : dJ prog_8_method_52_code 37 (.goto 44) 44 40 81 := by decide +kernel
theorem d_M_takesItem_40 : dI prog_8_method_52_code 40 (.aload_n 0) 1 41 := by decide +kernel
theorem d_M_takesItem_41 : dI prog_8_method_52_code 41 (.ldc 183) 2 43 := by decide +kernel
theorem d_M_takesItem_43 : dI prog_8_method_52_code 43 (.invokevirtual 172) 3 46 := by decide +kernel
theorem d_M_takesItem_46 : dJ prog_8_method_52_code 46 (.ifCond .eq 7) 7 49 53 := by decide +kernel
theorem d_M_takesItem_49 : dI prog_8_method_52_code 49 (.iconst 4) 1 50 ∧ Int32.ofInt 4 = 4 := by decide +kernel
theorem d_M_takesItem_50 : dJ prog_8_method_52_code 50 (.goto 31) 31 53 81 := by decide +kernel
theorem d_M_takesItem_53 : dI prog_8_method_52_code 53 (.aload_n 0) 1 54 := by decide +kernel
theorem d_M_takesItem_54 : dI prog_8_method_52_code 54 (.ldc 185) 2 56 := by decide +kernel
theorem d_M_takesItem_56 : dI prog_8_method_52_code 56 (.invokevirtual 172) 3 59 := by decide +kernel
theorem d_M_takesItem_59 : dJ prog_8_method_52_code 59 (.ifCond .eq 7) 7 62 66 := by decide +kernel
theorem d_M_takesItem_62 : dI prog_8_method_52_code 62 (.iconst 5) 1 63 ∧ Int32.ofInt 5 = 5 := by decide +kernel
theorem d_M_takesItem_63 : dJ prog_8_method_52_code 63 (.goto 18) 18 66 81 := by decide +kernel
theorem d_M_takesItem_66 : dI prog_8_method_52_code 66 (.aload_n 0) 1 67 := by decide +kernel
theorem d_M_takesItem_67 : dI prog_8_method_52_code 67 (.ldc 187) 2 69 := by decide +kernel
theorem d_M_takesItem_69 : dI prog_8_method_52_code 69 (.invokevirtual 172) 3 72 := by decide +kernel
theorem d_M_takesItem_72 : dJ prog_8_method_52_code 72 (.ifCond .eq 8) 8 75 80 := by decide +kernel
theorem d_M_takesItem_75 : dI prog_8_method_52_code 75 (.bipush 6) 2 77 ∧ (Int8.ofInt 6).toInt32 = 6 := by decide +kernel
theorem d_M_takesItem_77 : dJ prog_8_method_52_code 77 (.goto 4) 4 80 81 := by decide +kernel
theorem d_M_takesItem_80 : dI prog_8_method_52_code 80 (.iconst (-1)) 1 81 ∧ Int32.ofInt (-1) = (-1) := by decide +kernel
theorem d_M_takesItem_81 : dI prog_8_method_52_code 81 (.istore_n 1) 1 82 := by decide +kernel
theorem d_M_takesItem_82 : dI prog_8_method_52_code 82 (.iload_n 1) 1 83 := by decide +kernel
theorem d_M_takesItem_83 : dI prog_8_method_52_code 83 (.iconst (-1)) 1 84 ∧ Int32.ofInt (-1) = (-1) := by decide +kernel
theorem d_M_takesItem_84 : dJ prog_8_method_52_code 84 (.if_icmp .eq 9) 9 87 93 := by decide +kernel
theorem d_M_takesItem_87 : dI prog_8_method_52_code 87 (.aload_n 0) 1 88 := by decide +kernel
theorem d_M_takesItem_88 : dI prog_8_method_52_code 88 (.iload_n 1) 1 89 := by decide +kernel
theorem d_M_takesItem_89 : dI prog_8_method_52_code 89 (.invokevirtual 189) 3 92 := by decide +kernel
theorem d_M_takesItem_92 : decode prog_8_method_52_code 92 = .ok (.ireturn, 1) := by decide +kernel
theorem d_M_takesItem_93 : dI prog_8_method_52_code 93 (.aload_n 0) 1 94 := by decide +kernel
theorem d_M_takesItem_94 : dI prog_8_method_52_code 94 (.ldc 192) 2 96 := by decide +kernel
theorem d_M_takesItem_96 : dI prog_8_method_52_code 96 (.invokevirtual 172) 3 99 := by decide +kernel
theorem d_M_takesItem_99 : dJ prog_8_method_52_code 99 (.ifCond .eq 7) 7 102 106 := by decide +kernel
theorem d_M_takesItem_102 : dI prog_8_method_52_code 102 (.iconst 0) 1 103 ∧ Int32.ofInt 0 = 0 := by decide +kernel
theorem d_M_takesItem_103 : dJ prog_8_method_52_code 103 (.goto 97) 97 106 200 := by decide +kernel
theorem d_M_takesItem_106 : dI prog_8_method_52_code 106 (.aload_n 0) 1 107 := by decide +kernel
theorem d_M_takesItem_107 : dI prog_8_method_52_code 107 (.ldc 194) 2 109 := by decide +kernel
theorem d_M_takesItem_109 : dI prog_8_method_52_code 109 (.invokevirtual 172) 3 112 := by decide +kernel
theorem d_M_takesItem_112 : dJ prog_8_method_52_code 112 (.ifCond .eq 7) 7 115 119 := by decide +kernel
theorem d_M_takesItem_115 : dI prog_8_method_52_code 115 (.iconst 1) 1 116 ∧ Int32.ofInt 1 = 1 := by decide +kernel
theorem d_M_takesItem_116 : dJ prog_8_method_52_code 116 (.goto 84) 84 119 200 := by decide +kernel
theorem d_M_takesItem_119 : dI prog_8_method_52_code 119 (.aload_n 0) 1 120 := by decide +kernel
theorem d_M_takesItem_120 : dI prog_8_method_52_code 120 (.ldc 196) 2 122 := by decide +kernel
theorem d_M_takesItem_122 : dI prog_8_method_52_code 122 (.invokevirtual 172) 3 125 := by decide +kernel
theorem d_M_takesItem_125 : dJ prog_8_method_52_code 125 (.ifCond .eq 7) 7 128 132 := by decide +kernel
theorem d_M_takesItem_128 : dI prog_8_method_52_code 128 (.iconst 2) 1 129 ∧ Int32.ofInt 2 = 2 := by decide +kernel
theorem d_M_takesItem_129 : dJ prog_8_method_52_code 129 (.goto 71) 71 132 200 := by decide +kernel
theorem d_M_takesItem_132 : dI prog_8_method_52_code 132 (.aload_n 0) 1 133 := by decide +kernel
theorem d_M_takesItem_133 : dI prog_8_method_52_code 133 (.ldc 198) 2 135 := by decide +kernel
theorem d_M_takesItem_135 : dI prog_8_method_52_code 135 (.invokevirtual 172) 3 138 := by decide +kernel
theorem d_M_takesItem_138 : dJ prog_8_method_52_code 138 (.ifCond .eq 7) 7 141 145 := by decide +kernel
theorem d_M_takesItem_141 : dI prog_8_method_52_code 141 (.iconst 3) 1 142 ∧ Int32.ofInt 3 = 3 := by decide +kernel
theorem d_M_takesItem_142 : dJ prog_8_method_52_code 142 (.goto 58) 58 145 200 := by decide +kernel
theorem d_M_takesItem_145 : dI prog_8_method_52_code 145 (.aload_n 0) 1 146 := by decide +kernel
theorem d_M_takesItem_146 : dI prog_8_method_52_code 146 (.ldc 200) 2 148 := by decide +kernel
theorem d_M_takesItem_148 : dI prog_8_method_52_code 148 (.invokevirtual 172) 3 151 := by decide +kernel
theorem d_M_takesItem_151 : dJ prog_8_method_52_code 151 (.ifCond .eq 7) 7 154 158 := by decide +kernel
theorem d_M_takesItem_154 : dI prog_8_method_52_code 154 (.iconst 4) 1 155 ∧ Int32.ofInt 4 = 4 := by decide +kernel
theorem d_M_takesItem_155 : dJ prog_8_method_52_code 155 (.goto 45) 45 158 200 := by decide +kernel
theorem d_M_takesItem_158 : dI prog_8_method_52_code 158 (.aload_n 0) 1 159 := by decide +kernel
theorem d_M_takesItem_159 : dI prog_8_method_52_code 159 (.ldc 202) 2 161 := by decide +kernel
theorem d_M_takesItem_161 : dI prog_8_method_52_code 161 (.invokevirtual 172) 3 164 := by decide +kernel
theorem d_M_takesItem_164 : dJ prog_8_method_52_code 164 (.ifCond .eq 7) 7 167 171 := by decide +kernel
theorem d_M_takesItem_167 : dI prog_8_method_52_code 167 (.iconst 5) 1 168 ∧ Int32.ofInt 5 = 5 := by decide +kernel
theorem d_M_takesItem_168 : dJ prog_8_method_52_code 168 (.goto 32) 32 171 200 := by decide +kernel
theorem d_M_takesItem_171 : dI prog_8_method_52_code 171 (.aload_n 0) 1 172 := by decide +kernel
theorem d_M_takesItem_172 : dI prog_8_method_52_code 172 (.ldc 204) 2 174 := by decide +kernel
theorem d_M_takesItem_174 : dI prog_8_method_52_code 174 (.invokevirtual 172) 3 177 := by decide +kernel
theorem d_M_takesItem_177 : dJ prog_8_method_52_code 177 (.ifCond .eq 8) 8 180 185 := by decide +kernel
theorem d_M_takesItem_180 : dI prog_8_method_52_code 180 (.bipush 6) 2 182 ∧ (Int8.ofInt 6).toInt32 = 6 := by decide +kernel
theorem d_M_takesItem_182 : dJ prog_8_method_52_code 182 (.goto 18) 18 185 200 := by decide +kernel
theorem d_M_takesItem_185 : dI prog_8_method_52_code 185 (.aload_n 0) 1 186 := by decide +kernel
theorem d_M_takesItem_186 : dI prog_8_method_52_code 186 (.ldc 206) 2 188 := by decide +kernel
theorem d_M_takesItem_188 : dI prog_8_method_52_code 188 (.invokevirtual 172) 3 191 := by decide +kernel
theorem d_M_takesItem_191 : dJ prog_8_method_52_code 191 (.ifCond .eq 8) 8 194 199 := by decide +kernel
theorem d_M_takesItem_194 : dI prog_8_method_52_code 194 (.bipush 7) 2 196 ∧ (Int8.ofInt 7).toInt32 = 7 := by decide +kernel
theorem d_M_takesItem_196 : dJ prog_8_method_52_code 196 (.goto 4) 4 199 200 := by decide +kernel
theorem d_M_takesItem_199 : dI prog_8_method_52_code 199 (.iconst (-1)) 1 200 ∧ Int32.ofInt (-1) = (-1) := by decide +kernel
theorem d_M_takesItem_200 : dI prog_8_method_52_code 200 (.istore_n 2) 1 201 := by decide +kernel
theorem d_M_takesItem_201 : dI prog_8_method_52_code 201 (.iload_n 2) 1 202 := by decide +kernel
theorem d_M_takesItem_202 : dI prog_8_method_52_code 202 (.iconst (-1)) 1 203 ∧ Int32.ofInt (-1) = (-1) := by decide +kernel
theorem d_M_takesItem_203 : dJ prog_8_method_52_code 203 (.if_icmp .eq 15) 15 206 218 := by decide +kernel
theorem d_M_takesItem_206 : dI prog_8_method_52_code 206 (.aload_n 0) 1 207 := by decide +kernel
theorem d_M_takesItem_207 : dI prog_8_method_52_code 207 (.iload_n 2) 1 208 := by decide +kernel
theorem d_M_takesItem_208 : dI prog_8_method_52_code 208 (.invokevirtual 208) 3 211 := by decide +kernel
theorem d_M_takesItem_211 : dJ prog_8_method_52_code 211 (.ifCond .eq 7) 7 214 218 := by decide +kernel
theorem d_M_takesItem_214 : dI prog_8_method_52_code 214 (.iconst 1) 1 215 ∧ Int32.ofInt 1 = 1 := by decide +kernel
theorem d_M_takesItem_215 : dJ prog_8_method_52_code 215 (.goto 4) 4 218 219 := by decide +kernel
theorem d_M_takesItem_218 : dI prog_8_method_52_code 218 (.iconst 0) 1 219 ∧ Int32.ofInt 0 = 0 := by decide +kernel
theorem d_M_takesItem_219 : decode prog_8_method_52_code 219 = .ok (.ireturn, 1) := by decide +kernel
theorem d_M_takesAll_0 : dI prog_8_method_53_code 0 (.aload_n 0) 1 1 := by decide +kernel
theorem d_M_takesAll_1 : dI prog_8_method_53_code 1 (.iconst 0) 1 2 ∧ Int32.ofInt 0 = 0 := by decide +kernel
theorem d_M_takesAll_2 : dI prog_8_method_53_code 2 (.putfield 140) 3 5 := by decide +kernel
theorem d_M_takesAll_5 : dI prog_8_method_53_code 5 (.aload_n 0) 1 6 := by decide +kernel
theorem d_M_takesAll_6 : dI prog_8_method_53_code 6 (.invokevirtual 164) 3 9 := by decide +kernel
theorem d_M_takesAll_9 : dI prog_8_method_53_code 9 (.aload_n 0) 1 10 := by decide +kernel
theorem d_M_takesAll_10 : dI prog_8_method_53_code 10 (.invokevirtual 211) 3 13 := by decide +kernel
theorem d_M_takesAll_13 : dJ prog_8_method_53_code 13 (.ifCond .ne 5) 5 16 18 := by decide +kernel
theorem d_M_takesAll_16 : dI prog_8_method_53_code 16 (.iconst 0) 1 17 ∧ Int32.ofInt 0 = 0 := by decide +kernel
theorem d_M_takesAll_17 : decode prog_8_method_53_code 17 = .ok (.ireturn, 1) := by decide +kernel
theorem d_M_takesAll_18 : dI prog_8_method_53_code 18 (.aload_n 0) 1 19 := by decide +kernel
theorem d_M_takesAll_19 : dI prog_8_method_53_code 19 (.getfield 149) 3 22 := by decide +kernel
theorem d_M_takesAll_22 : dI prog_8_method_53_code 22 (.iconst 3) 1 23 ∧ Int32.ofInt 3 = 3 := by decide +kernel
theorem d_M_takesAll_23 : dJ prog_8_method_53_code 23 (.if_icmp .ne 16) 16 26 39 := by decide +kernel
theorem d_M_takesAll_26 : dI prog_8_method_53_code 26 (.aload_n 0) 1 27 := by decide +kernel
theorem d_M_takesAll_27 : dI prog_8_method_53_code 27 (.invokevirtual 164) 3 30 := by decide +kernel
theorem d_M_takesAll_30 : dI prog_8_method_53_code 30 (.aload_n 0) 1 31 := by decide +kernel
theorem d_M_takesAll_31 : dI prog_8_method_53_code 31 (.invokevirtual 211) 3 34 := by decide +kernel
theorem d_M_takesAll_34 : dJ prog_8_method_53_code 34 (.ifCond .ne (-16)) (-16) 37 18 := by decide +kernel
theorem d_M_takesAll_37 : dI prog_8_method_53_code 37 (.iconst 0) 1 38 ∧ Int32.ofInt 0 = 0 := by decide +kernel
theorem d_M_takesAll_38 : decode prog_8_method_53_code 38 = .ok (.ireturn, 1) := by decide +kernel
theorem d_M_takesAll_39 : dI prog_8_method_53_code 39 (.aload_n 0) 1 40 := by decide +kernel
theorem d_M_takesAll_40 : dI prog_8_method_53_code 40 (.getfield 149) 3 43 := by decide +kernel
theorem d_M_takesAll_43 : dJ prog_8_method_53_code 43 (.ifCond .ne 7) 7 46 50 := by decide +kernel
theorem d_M_takesAll_46 : dI prog_8_method_53_code 46 (.iconst 1) 1 47 ∧ Int32.ofInt 1 = 1 := by decide +kernel
theorem d_M_takesAll_47 : dJ prog_8_method_53_code 47 (.goto 4) 4 50 51 := by decide +kernel
theorem d_M_takesAll_50 : dI prog_8_method_53_code 50 (.iconst 0) 1 51 ∧ Int32.ofInt 0 = 0 := by decide +kernel
theorem d_M_takesAll_51 : decode prog_8_method_53_code 51 = .ok (.ireturn, 1) := by decide +kernel
theorem d_M_text_0 : dI prog_8_method_54_code 0 (.aload_n 0) 1 1 := by decide +kernel
theorem d_M_text_1 : dI prog_8_method_54_code 1 (.invokevirtual 124) 3 4 := by decide +kernel
theorem d_M_text_4 : dI prog_8_method_54_code 4 (.aload_n 0) 1 5 := by decide +kernel
theorem d_M_text_5 : dI prog_8_method_54_code 5 (.invokevirtual 214) 3 8 := by decide +kernel
theorem d_M_text_8 : dI prog_8_method_54_code 8 (.istore_n 1) 1 9 := by decide +kernel
theorem d_M_text_9 : dI prog_8_method_54_code 9 (.aload_n 0) 1 10 := by decide +kernel
theorem d_M_text_10 : dI prog_8_method_54_code 10 (.iconst 0) 1 11 ∧ Int32.ofInt 0 = 0 := by decide +kernel
theorem d_M_text_11 : dI prog_8_method_54_code 11 (.putfield 136) 3 14 := by decide +kernel
theorem d_M_text_14 : dI prog_8_method_54_code 14 (.iload_n 1) 1 15 := by decide +kernel
theorem d_M_text_15 : dJ prog_8_method_54_code 15 (.ifCond .ne 14) 14 18 29 := by decide +kernel
theorem d_M_text_18 : dI prog_8_method_54_code 18 (.aload_n 0) 1 19 := by decide +kernel
theorem d_M_text_19 : dI prog_8_method_54_code 19 (.invokevirtual 121) 3 22 := by decide +kernel
theorem d_M_text_22 : dI prog_8_method_54_code 22 (.iconst (-1)) 1 23 ∧ Int32.ofInt (-1) = (-1) := by decide +kernel
theorem d_M_text_23 : dI prog_8_method_54_code 23 (.aload_n 0) 1 24 := by decide +kernel
theorem d_M_text_24 : dI prog_8_method_54_code 24 (.getfield 146) 3 27 := by decide +kernel
theorem d_M_text_27 : dI prog_8_method_54_code 27 .isub 1 28 := by decide +kernel
theorem d_M_text_28 : decode prog_8_method_54_code 28 = .ok (.ireturn, 1) := by decide +kernel
theorem d_M_text_29 : dI prog_8_method_54_code 29 (.aload_n 0) 1 30 := by decide +kernel
theorem d_M_text_30 : dI prog_8_method_54_code 30 (.getfield 7) 3 33 := by decide +kernel
theorem d_M_text_33 : dI prog_8_method_54_code 33 (.bipush 11) 2 35 ∧ (Int8.ofInt 11).toInt32 = 11 := by decide +kernel
theorem d_M_text_35 : dI prog_8_method_54_code 35 .iaload 1 36 := by decide +kernel
theorem d_M_text_36 : decode prog_8_method_54_code 36 = .ok (.ireturn, 1) := by decide +kernel
theorem d_M_planOf_0 : dI prog_8_method_55_code 0 (.iload_n 1) 1 1 := by decide +kernel
theorem d_M_planOf_1 : dI prog_8_method_55_code 1 (.iconst 0) 1 2 ∧ Int32.ofInt 0 = 0 := by decide +kernel
theorem d_M_planOf_2 : dI prog_8_method_55_code 2 (.aload_n 0) 1 3 := by decide +kernel
theorem d_M_planOf_3 : dI prog_8_method_55_code 3 (.getfield 7) 3 6 := by decide +kernel
theorem d_M_planOf_6 : dI prog_8_method_55_code 6 (.bipush 11) 2 8 ∧ (Int8.ofInt 11).toInt32 = 11 := by decide +kernel
theorem d_M_planOf_8 : dI prog_8_method_55_code 8 .iaload 1 9 := by decide +kernel
theorem d_M_planOf_9 : dI prog_8_method_55_code 9 (.iconst 1) 1 10 ∧ Int32.ofInt 1 = 1 := by decide +kernel
theorem d_M_planOf_10 : dI prog_8_method_55_code 10 .isub 1 11 := by decide +kernel
theorem d_M_planOf_11 : dI prog_8_method_55_code 11 (.invokestatic 45) 3 14 := by decide +kernel
theorem d_M_planOf_14 : dJ prog_8_method_55_code 14 (.ifCond .eq 15) 15 17 29 := by decide +kernel
theorem d_M_planOf_17 : dI prog_8_method_55_code 17 (.aload_n 0) 1 18 := by decide +kernel
theorem d_M_planOf_18 : dI prog_8_method_55_code 18 (.getfield 7) 3 21 := by decide +kernel
theorem d_M_planOf_21 : dI prog_8_method_55_code 21 (.bipush 72) 2 23 ∧ (Int8.ofInt 72).toInt32 = 72 := by decide +kernel
theorem d_M_planOf_23 : dI prog_8_method_55_code 23 (.iload_n 1) 1 24 := by decide +kernel
theorem d_M_planOf_24 : dI prog_8_method_55_code 24 .iadd 1 25 := by decide +kernel
theorem d_M_planOf_25 : dI prog_8_method_55_code 25 .iaload 1 26 := by decide +kernel
theorem d_M_planOf_26 : dJ prog_8_method_55_code 26 (.goto 8) 8 29 34 := by decide +kernel
theorem d_M_planOf_29 : dI prog_8_method_55_code 29 (.aload_n 0) 1 30 := by decide +kernel
theorem d_M_planOf_30 : dI prog_8_method_55_code 30 (.iconst 0) 1 31 ∧ Int32.ofInt 0 = 0 := by decide +kernel
theorem d_M_planOf_31 : dI prog_8_method_55_code 31 (.invokevirtual 61) 3 34 := by decide +kernel
theorem d_M_planOf_34 : decode prog_8_method_55_code 34 = .ok (.ireturn, 1) := by decide +kernel
theorem d_M_clear_0 : dI prog_8_method_56_code 0 (.aload_n 0) 1 1 := by decide +kernel
theorem d_M_clear_1 : dI prog_8_method_56_code 1 (.getfield 7) 3 4 := by decide +kernel
theorem d_M_clear_4 : dI prog_8_method_56_code 4 (.bipush 11) 2 6 ∧ (Int8.ofInt 11).toInt32 = 11 := by decide +kernel
theorem d_M_clear_6 : dI prog_8_method_56_code 6 .iaload 1 7 := by decide +kernel
theorem d_M_clear_7 : dI prog_8_method_56_code 7 (.istore_n 1) 1 8 := by decide +kernel
theorem d_M_clear_8 : dI prog_8_method_56_code 8 (.aload_n 0) 1 9 := by decide +kernel
theorem d_M_clear_9 : dI prog_8_method_56_code 9 (.getfield 7) 3 12 := by decide +kernel
theorem d_M_clear_12 : dI prog_8_method_56_code 12 (.bipush 11) 2 14 ∧ (Int8.ofInt 11).toInt32 = 11 := by decide +kernel
theorem d_M_clear_14 : dI prog_8_method_56_code 14 (.iconst 0) 1 15 ∧ Int32.ofInt 0 = 0 := by decide +kernel
theorem d_M_clear_15 : dI prog_8_method_56_code 15 .iastore 1 16 := by decide +kernel
theorem d_M_clear_16 : dI prog_8_method_56_code 16 (.iload_n 1) 1 17 := by decide +kernel
theorem d_M_clear_17 : decode prog_8_method_56_code 17 = .ok (.ireturn, 1) := by decide +kernel
theorem d_M_follows_0 : dI prog_8_method_57_code 0 (.iconst 0) 1 1 ∧ Int32.ofInt 0 = 0 := by decide +kernel
theorem d_M_follows_1 : dI prog_8_method_57_code 1 (.istore_n 1) 1 2 := by decide +kernel
theorem d_M_follows_2 : dI prog_8_method_57_code 2 (.iload_n 1) 1 3 := by decide +kernel
theorem d_M_follows_3 : dI prog_8_method_57_code 3 (.aload_n 0) 1 4 := by decide +kernel
theorem d_M_follows_4 : dI prog_8_method_57_code 4 (.getfield 7) 3 7 := by decide +kernel
theorem d_M_follows_7 : dI prog_8_method_57_code 7 (.bipush 11) 2 9 ∧ (Int8.ofInt 11).toInt32 = 11 := by decide +kernel
theorem d_M_follows_9 : dI prog_8_method_57_code 9 .iaload 1 10 := by decide +kernel
theorem d_M_follows_10 : dJ prog_8_method_57_code 10 (.if_icmp .ge 38) 38 13 48 := by decide +kernel
theorem d_M_follows_13 : dI prog_8_method_57_code 13 (.aload_n 0) 1 14 := by decide +kernel
theorem d_M_follows_14 : dI prog_8_method_57_code 14 (.aload_n 0) 1 15 := by decide +kernel
theorem d_M_follows_15 : dI prog_8_method_57_code 15 (.getfield 7) 3 18 := by decide +kernel
theorem d_M_follows_18 : dI prog_8_method_57_code 18 (.bipush 72) 2 20 ∧ (Int8.ofInt 72).toInt32 = 72 := by decide +kernel
theorem d_M_follows_20 : dI prog_8_method_57_code 20 (.iload_n 1) 1 21 := by decide +kernel
theorem d_M_follows_21 : dI prog_8_method_57_code 21 .iadd 1 22 := by decide +kernel
theorem d_M_follows_22 : dI prog_8_method_57_code 22 .iaload 1 23 := by decide +kernel
theorem d_M_follows_23 : dI prog_8_method_57_code 23 (.invokevirtual 114) 3 26 := by decide +kernel
theorem d_M_follows_26 : dJ prog_8_method_57_code 26 (.ifCond .eq 22) 22 29 48 := by decide +kernel
theorem d_M_follows_29 : dI prog_8_method_57_code 29 (.aload_n 0) 1 30 := by decide +kernel
theorem d_M_follows_30 : dI prog_8_method_57_code 30 (.aload_n 0) 1 31 := by decide +kernel
theorem d_M_follows_31 : dI prog_8_method_57_code 31 (.getfield 7) 3 34 := by decide +kernel
theorem d_M_follows_34 : dI prog_8_method_57_code 34 (.bipush 72) 2 36 ∧ (Int8.ofInt 72).toInt32 = 72 := by decide +kernel
theorem d_M_follows_36 : dI prog_8_method_57_code 36 (.iload_n 1) 1 37 := by decide +kernel
theorem d_M_follows_37 : dI prog_8_method_57_code 37 .iadd 1 38 := by decide +kernel
theorem d_M_follows_38 : dI prog_8_method_57_code 38 .iaload 1 39 := by decide +kernel
theorem d_M_follows_39 : dI prog_8_method_57_code 39 (.invokevirtual 117) 3 42 := by decide +kernel
theorem d_M_follows_42 : dI prog_8_method_57_code 42 (.iinc 1 1) 3 45 ∧ Int32.ofInt 1 = 1 := by decide +kernel
theorem d_M_follows_45 : dJ prog_8_method_57_code 45 (.goto (-43)) (-43) 48 2 := by decide +kernel
theorem d_M_follows_48 : dI prog_8_method_57_code 48 (.iload_n 1) 1 49 := by decide +kernel
theorem d_M_follows_49 : decode prog_8_method_57_code 49 = .ok (.ireturn, 1) := by decide +kernel
theorem d_M_follow_0 : dI prog_8_method_58_code 0 (.aload_n 0) 1 1 := by decide +kernel
theorem d_M_follow_1 : dI prog_8_method_58_code 1 (.invokevirtual 217) 3 4 := by decide +kernel
theorem d_M_follow_4 : decode prog_8_method_58_code 4 = .ok (.ireturn, 1) := by decide +kernel
theorem d_M_plans_0 : dI prog_8_method_59_code 0 (.iload_n 1) 1 1 := by decide +kernel
theorem d_M_plans_1 : dI prog_8_method_59_code 1 (.iconst 0) 1 2 ∧ Int32.ofInt 0 = 0 := by decide +kernel
theorem d_M_plans_2 : dI prog_8_method_59_code 2 (.iconst 3) 1 3 ∧ Int32.ofInt 3 = 3 := by decide +kernel
theorem d_M_plans_3 : dI prog_8_method_59_code 3 (.invokestatic 45) 3 6 := by decide +kernel
theorem d_M_plans_6 : dJ prog_8_method_59_code 6 (.ifCond .ne 9) 9 9 15 := by decide +kernel
theorem d_M_plans_9 : dI prog_8_method_59_code 9 (.aload_n 0) 1 10 := by decide +kernel
theorem d_M_plans_10 : dI prog_8_method_59_code 10 (.iconst 0) 1 11 ∧ Int32.ofInt 0 = 0 := by decide +kernel
theorem d_M_plans_11 : dI prog_8_method_59_code 11 (.invokevirtual 61) 3 14 := by decide +kernel
theorem d_M_plans_14 : decode prog_8_method_59_code 14 = .ok (.ireturn, 1) := by decide +kernel
theorem d_M_plans_15 : dI prog_8_method_59_code 15 (.aload_n 0) 1 16 := by decide +kernel
theorem d_M_plans_16 : dI prog_8_method_59_code 16 (.invokevirtual 124) 3 19 := by decide +kernel
theorem d_M_plans_19 : dI prog_8_method_59_code 19 (.aload_n 0) 1 20 := by decide +kernel
theorem d_M_plans_20 : dI prog_8_method_59_code 20 (.invokevirtual 217) 3 23 := by decide +kernel
theorem d_M_plans_23 : dI prog_8_method_59_code 23 (.istore_n 2) 1 24 := by decide +kernel
theorem d_M_plans_24 : dI prog_8_method_59_code 24 (.aload_n 0) 1 25 := by decide +kernel
theorem d_M_plans_25 : dI prog_8_method_59_code 25 (.iload_n 1) 1 26 := by decide +kernel
theorem d_M_plans_26 : dI prog_8_method_59_code 26 (.iconst 1) 1 27 ∧ Int32.ofInt 1 = 1 := by decide +kernel
theorem d_M_plans_27 : dJ prog_8_method_59_code 27 (.if_icmp .ne 7) 7 30 34 := by decide +kernel
theorem d_M_plans_30 : dI prog_8_method_59_code 30 (.iconst 0) 1 31 ∧ Int32.ofInt 0 = 0 := by decide +kernel
theorem d_M_plans_31 : dJ prog_8_method_59_code 31 (.goto 13) 13 34 44 := by decide +kernel
theorem d_M_plans_34 : dI prog_8_method_59_code 34 (.iload_n 1) 1 35 := by decide +kernel
theorem d_M_plans_35 : dI prog_8_method_59_code 35 (.iconst 2) 1 36 ∧ Int32.ofInt 2 = 2 := by decide +kernel
theorem d_M_plans_36 : dJ prog_8_method_59_code 36 (.if_icmp .ne 7) 7 39 43 := by decide +kernel
theorem d_M_plans_39 : dI prog_8_method_59_code 39 (.iconst 2) 1 40 ∧ Int32.ofInt 2 = 2 := by decide +kernel
theorem d_M_plans_40 : dJ prog_8_method_59_code 40 (.goto 4) 4 43 44 := by decide +kernel
theorem d_M_plans_43 : dI prog_8_method_59_code 43 (.iconst 1) 1 44 ∧ Int32.ofInt 1 = 1 := by decide +kernel
theorem d_M_plans_44 : dI prog_8_method_59_code 44 (.invokevirtual 127) 3 47 := by decide +kernel
theorem d_M_plans_47 : dI prog_8_method_59_code 47 (.istore_n 3) 1 48 := by decide +kernel
theorem d_M_plans_48 : dI prog_8_method_59_code 48 (.iload_n 1) 1 49 := by decide +kernel
theorem d_M_plans_49 : dJ prog_8_method_59_code 49 (.ifCond .ne 7) 7 52 56 := by decide +kernel
theorem d_M_plans_52 : dI prog_8_method_59_code 52 (.iload_n 2) 1 53 := by decide +kernel
theorem d_M_plans_53 : dJ prog_8_method_59_code 53 (.goto 4) 4 56 57 := by decide +kernel
theorem d_M_plans_56 : dI prog_8_method_59_code 56 (.iload_n 3) 1 57 := by decide +kernel
theorem d_M_plans_57 : decode prog_8_method_59_code 57 = .ok (.ireturn, 1) := by decide +kernel
theorem d_M_doesRow_0 : dI prog_8_method_60_code 0 (.iload_n 2) 1 1 := by decide +kernel
theorem d_M_doesRow_1 : dI prog_8_method_60_code 1 (.istore_n 3) 1 2 := by decide +kernel
theorem d_M_doesRow_2 : dI prog_8_method_60_code 2 (.iload_n 1) 1 3 := by decide +kernel
theorem d_M_doesRow_3 : dI prog_8_method_60_code 3 (.iconst 1) 1 4 ∧ Int32.ofInt 1 = 1 := by decide +kernel
theorem d_M_doesRow_4 : dI prog_8_method_60_code 4 .isub 1 5 := by decide +kernel
theorem d_M_doesRow_5 : dI prog_8_method_60_code 5 (.istore 4) 2 7 := by decide +kernel
theorem d_M_doesRow_7 : dI prog_8_method_60_code 7 (.iload 4) 2 9 := by decide +kernel
theorem d_M_doesRow_9 : dJ prog_8_method_60_code 9 (.ifCond .lt 25) 25 12 34 := by decide +kernel
theorem d_M_doesRow_12 : dI prog_8_method_60_code 12 (.aload_n 0) 1 13 := by decide +kernel
theorem d_M_doesRow_13 : dI prog_8_method_60_code 13 (.getfield 25) 3 16 := by decide +kernel
theorem d_M_doesRow_16 : dI prog_8_method_60_code 16 (.iload 4) 2 18 := by decide +kernel
theorem d_M_doesRow_18 : dI prog_8_method_60_code 18 (.iload_n 3) 1 19 := by decide +kernel
theorem d_M_doesRow_19 : dI prog_8_method_60_code 19 (.bipush 8) 2 21 ∧ (Int8.ofInt 8).toInt32 = 8 := by decide +kernel
theorem d_M_doesRow_21 : dI prog_8_method_60_code 21 .irem 1 22 := by decide +kernel
theorem d_M_doesRow_22 : dI prog_8_method_60_code 22 .iastore 1 23 := by decide +kernel
theorem d_M_doesRow_23 : dI prog_8_method_60_code 23 (.iload_n 3) 1 24 := by decide +kernel
theorem d_M_doesRow_24 : dI prog_8_method_60_code 24 (.bipush 8) 2 26 ∧ (Int8.ofInt 8).toInt32 = 8 := by decide +kernel
theorem d_M_doesRow_26 : dI prog_8_method_60_code 26 .idiv 1 27 := by decide +kernel
theorem d_M_doesRow_27 : dI prog_8_method_60_code 27 (.istore_n 3) 1 28 := by decide +kernel
theorem d_M_doesRow_28 : dI prog_8_method_60_code 28 (.iinc 4 (-1)) 3 31 ∧ Int32.ofInt (-1) = (-1) := by decide +kernel
theorem d_M_doesRow_31 : dJ prog_8_method_60_code 31 (.goto (-24)) (-24) 34 7 := by decide +kernel
theorem d_M_doesRow_34 : dI prog_8_method_60_code 34 (.iconst 1) 1 35 ∧ Int32.ofInt 1 = 1 := by decide +kernel
theorem d_M_doesRow_35 : dI prog_8_method_60_code 35 (.istore 4) 2 37 := by decide +kernel
theorem d_M_doesRow_37 : dI prog_8_method_60_code 37 (.iconst 0) 1 38 ∧ Int32.ofInt 0 = 0 := by decide +kernel
theorem d_M_doesRow_38 : dI prog_8_method_60_code 38 (.istore 5) 2 40 := by decide +kernel
theorem d_M_doesRow_40 : dI prog_8_method_60_code 40 (.iload 5) 2 42 := by decide +kernel
theorem d_M_doesRow_42 : dI prog_8_method_60_code 42 (.iload_n 1) 1 43 := by decide +kernel
theorem d_M_doesRow_43 : dJ prog_8_method_60_code 43 (.if_icmp .ge 43) 43 46 86 := by decide +kernel
theorem d_M_doesRow_46 : dI prog_8_method_60_code 46 (.iload 4) 2 48 := by decide +kernel
theorem d_M_doesRow_48 : dJ prog_8_method_60_code 48 (.ifCond .eq 38) 38 51 86 := by decide +kernel
theorem d_M_doesRow_51 : dI prog_8_method_60_code 51 (.aload_n 0) 1 52 := by decide +kernel
theorem d_M_doesRow_52 : dI prog_8_method_60_code 52 (.aload_n 0) 1 53 := by decide +kernel
theorem d_M_doesRow_53 : dI prog_8_method_60_code 53 (.getfield 25) 3 56 := by decide +kernel
theorem d_M_doesRow_56 : dI prog_8_method_60_code 56 (.iload 5) 2 58 := by decide +kernel
theorem d_M_doesRow_58 : dI prog_8_method_60_code 58 .iaload 1 59 := by decide +kernel
theorem d_M_doesRow_59 : dI prog_8_method_60_code 59 (.invokevirtual 114) 3 62 := by decide +kernel
theorem d_M_doesRow_62 : dI prog_8_method_60_code 62 (.istore 4) 2 64 := by decide +kernel
theorem d_M_doesRow_64 : dI prog_8_method_60_code 64 (.iload 4) 2 66 := by decide +kernel
theorem d_M_doesRow_66 : dJ prog_8_method_60_code 66 (.ifCond .eq 14) 14 69 80 := by decide +kernel
theorem d_M_doesRow_69 : dI prog_8_method_60_code 69 (.aload_n 0) 1 70 := by decide +kernel
theorem d_M_doesRow_70 : dI prog_8_method_60_code 70 (.aload_n 0) 1 71 := by decide +kernel
theorem d_M_doesRow_71 : dI prog_8_method_60_code 71 (.getfield 25) 3 74 := by decide +kernel
theorem d_M_doesRow_74 : dI prog_8_method_60_code 74 (.iload 5) 2 76 := by decide +kernel
theorem d_M_doesRow_76 : dI prog_8_method_60_code 76 .iaload 1 77 := by decide +kernel
theorem d_M_doesRow_77 : dI prog_8_method_60_code 77 (.invokevirtual 117) 3 80 := by decide +kernel
theorem d_M_doesRow_80 : dI prog_8_method_60_code 80 (.iinc 5 1) 3 83 ∧ Int32.ofInt 1 = 1 := by decide +kernel
theorem d_M_doesRow_83 : dJ prog_8_method_60_code 83 (.goto (-43)) (-43) 86 40 := by decide +kernel
theorem d_M_doesRow_86 : dI prog_8_method_60_code 86 (.iload 4) 2 88 := by decide +kernel
theorem d_M_doesRow_88 : decode prog_8_method_60_code 88 = .ok (.ireturn, 1) := by decide +kernel
theorem d_M_digits_0 : dI prog_8_method_61_code 0 (.iload_n 0) 1 1 := by decide +kernel
theorem d_M_digits_1 : dI prog_8_method_61_code 1 (.iconst 1) 1 2 ∧ Int32.ofInt 1 = 1 := by decide +kernel
theorem d_M_digits_2 : dJ prog_8_method_61_code 2 (.if_icmp .ne 7) 7 5 9 := by decide +kernel
theorem d_M_digits_5 : dI prog_8_method_61_code 5 (.iload_n 1) 1 6 := by decide +kernel
theorem d_M_digits_6 : dJ prog_8_method_61_code 6 (.goto 46) 46 9 52 := by decide +kernel
theorem d_M_digits_9 : dI prog_8_method_61_code 9 (.iload_n 0) 1 10 := by decide +kernel
theorem d_M_digits_10 : dI prog_8_method_61_code 10 (.iconst 2) 1 11 ∧ Int32.ofInt 2 = 2 := by decide +kernel
theorem d_M_digits_11 : dJ prog_8_method_61_code 11 (.if_icmp .ne 18) 18 14 29 := by decide +kernel
theorem d_M_digits_14 : dI prog_8_method_61_code 14 (.iload_n 1) 1 15 := by decide +kernel
theorem d_M_digits_15 : dI prog_8_method_61_code 15 (.bipush 8) 2 17 ∧ (Int8.ofInt 8).toInt32 = 8 := by decide +kernel
theorem d_M_digits_17 : dI prog_8_method_61_code 17 .idiv 1 18 := by decide +kernel
theorem d_M_digits_18 : dI prog_8_method_61_code 18 (.bipush 10) 2 20 ∧ (Int8.ofInt 10).toInt32 = 10 := by decide +kernel
theorem d_M_digits_20 : dI prog_8_method_61_code 20 .imul 1 21 := by decide +kernel
theorem d_M_digits_21 : dI prog_8_method_61_code 21 (.iload_n 1) 1 22 := by decide +kernel
theorem d_M_digits_22 : dI prog_8_method_61_code 22 (.bipush 8) 2 24 ∧ (Int8.ofInt 8).toInt32 = 8 := by decide +kernel
theorem d_M_digits_24 : dI prog_8_method_61_code 24 .irem 1 25 := by decide +kernel
theorem d_M_digits_25 : dI prog_8_method_61_code 25 .iadd 1 26 := by decide +kernel
theorem d_M_digits_26 : dJ prog_8_method_61_code 26 (.goto 26) 26 29 52 := by decide +kernel
theorem d_M_digits_29 : dI prog_8_method_61_code 29 (.iload_n 1) 1 30 := by decide +kernel
theorem d_M_digits_30 : dI prog_8_method_61_code 30 (.bipush 64) 2 32 ∧ (Int8.ofInt 64).toInt32 = 64 := by decide +kernel
theorem d_M_digits_32 : dI prog_8_method_61_code 32 .idiv 1 33 := by decide +kernel
theorem d_M_digits_33 : dI prog_8_method_61_code 33 (.bipush 100) 2 35 ∧ (Int8.ofInt 100).toInt32 = 100 := by decide +kernel
theorem d_M_digits_35 : dI prog_8_method_61_code 35 .imul 1 36 := by decide +kernel
theorem d_M_digits_36 : dI prog_8_method_61_code 36 (.iload_n 1) 1 37 := by decide +kernel
theorem d_M_digits_37 : dI prog_8_method_61_code 37 (.bipush 8) 2 39 ∧ (Int8.ofInt 8).toInt32 = 8 := by decide +kernel
theorem d_M_digits_39 : dI prog_8_method_61_code 39 .idiv 1 40 := by decide +kernel
theorem d_M_digits_40 : dI prog_8_method_61_code 40 (.bipush 8) 2 42 ∧ (Int8.ofInt 8).toInt32 = 8 := by decide +kernel
theorem d_M_digits_42 : dI prog_8_method_61_code 42 .irem 1 43 := by decide +kernel
theorem d_M_digits_43 : dI prog_8_method_61_code 43 (.bipush 10) 2 45 ∧ (Int8.ofInt 10).toInt32 = 10 := by decide +kernel
theorem d_M_digits_45 : dI prog_8_method_61_code 45 .imul 1 46 := by decide +kernel
theorem d_M_digits_46 : dI prog_8_method_61_code 46 .iadd 1 47 := by decide +kernel
theorem d_M_digits_47 : dI prog_8_method_61_code 47 (.iload_n 1) 1 48 := by decide +kernel
theorem d_M_digits_48 : dI prog_8_method_61_code 48 (.bipush 8) 2 50 ∧ (Int8.ofInt 8).toInt32 = 8 := by decide +kernel
theorem d_M_digits_50 : dI prog_8_method_61_code 50 .irem 1 51 := by decide +kernel
theorem d_M_digits_51 : dI prog_8_method_61_code 51 .iadd 1 52 := by decide +kernel
theorem d_M_digits_52 : decode prog_8_method_61_code 52 = .ok (.ireturn, 1) := by decide +kernel
theorem d_M_best_0 : dI prog_8_method_62_code 0 (.iload_n 1) 1 1 := by decide +kernel
theorem d_M_best_1 : dI prog_8_method_62_code 1 (.iconst 1) 1 2 ∧ Int32.ofInt 1 = 1 := by decide +kernel
theorem d_M_best_2 : dI prog_8_method_62_code 2 (.iconst 3) 1 3 ∧ Int32.ofInt 3 = 3 := by decide +kernel
theorem d_M_best_3 : dI prog_8_method_62_code 3 (.invokestatic 45) 3 6 := by decide +kernel
theorem d_M_best_6 : dJ prog_8_method_62_code 6 (.ifCond .eq 12) 12 9 18 := by decide +kernel
theorem d_M_best_9 : dI prog_8_method_62_code 9 (.iload_n 2) 1 10 := by decide +kernel
theorem d_M_best_10 : dI prog_8_method_62_code 10 (.iconst 0) 1 11 ∧ Int32.ofInt 0 = 0 := by decide +kernel
theorem d_M_best_11 : dI prog_8_method_62_code 11 (.iconst 2) 1 12 ∧ Int32.ofInt 2 = 2 := by decide +kernel
theorem d_M_best_12 : dI prog_8_method_62_code 12 (.invokestatic 45) 3 15 := by decide +kernel
theorem d_M_best_15 : dJ prog_8_method_62_code 15 (.ifCond .ne 9) 9 18 24 := by decide +kernel
theorem d_M_best_18 : dI prog_8_method_62_code 18 (.aload_n 0) 1 19 := by decide +kernel
theorem d_M_best_19 : dI prog_8_method_62_code 19 (.iconst 0) 1 20 ∧ Int32.ofInt 0 = 0 := by decide +kernel
theorem d_M_best_20 : dI prog_8_method_62_code 20 (.invokevirtual 61) 3 23 := by decide +kernel
theorem d_M_best_23 : decode prog_8_method_62_code 23 = .ok (.ireturn, 1) := by decide +kernel
theorem d_M_best_24 : dI prog_8_method_62_code 24 (.iload_n 1) 1 25 := by decide +kernel
theorem d_M_best_25 : dI prog_8_method_62_code 25 (.iconst 1) 1 26 ∧ Int32.ofInt 1 = 1 := by decide +kernel
theorem d_M_best_26 : dJ prog_8_method_62_code 26 (.if_icmp .ne 8) 8 29 34 := by decide +kernel
theorem d_M_best_29 : dI prog_8_method_62_code 29 (.bipush 8) 2 31 ∧ (Int8.ofInt 8).toInt32 = 8 := by decide +kernel
theorem d_M_best_31 : dJ prog_8_method_62_code 31 (.goto 16) 16 34 47 := by decide +kernel
theorem d_M_best_34 : dI prog_8_method_62_code 34 (.iload_n 1) 1 35 := by decide +kernel
theorem d_M_best_35 : dI prog_8_method_62_code 35 (.iconst 2) 1 36 ∧ Int32.ofInt 2 = 2 := by decide +kernel
theorem d_M_best_36 : dJ prog_8_method_62_code 36 (.if_icmp .ne 8) 8 39 44 := by decide +kernel
theorem d_M_best_39 : dI prog_8_method_62_code 39 (.bipush 64) 2 41 ∧ (Int8.ofInt 64).toInt32 = 64 := by decide +kernel
theorem d_M_best_41 : dJ prog_8_method_62_code 41 (.goto 6) 6 44 47 := by decide +kernel
theorem d_M_best_44 : dI prog_8_method_62_code 44 (.sipush 512) 3 47 ∧ (Int16.ofInt 512).toInt32 = 512 := by decide +kernel
theorem d_M_best_47 : dI prog_8_method_62_code 47 (.istore_n 3) 1 48 := by decide +kernel
theorem d_M_best_48 : dI prog_8_method_62_code 48 (.iconst (-1)) 1 49 ∧ Int32.ofInt (-1) = (-1) := by decide +kernel
theorem d_M_best_49 : dI prog_8_method_62_code 49 (.istore 4) 2 51 := by decide +kernel
theorem d_M_best_51 : dI prog_8_method_62_code 51 (.iconst 0) 1 52 ∧ Int32.ofInt 0 = 0 := by decide +kernel
theorem d_M_best_52 : dI prog_8_method_62_code 52 (.istore 5) 2 54 := by decide +kernel
theorem d_M_best_54 : dI prog_8_method_62_code 54 (.iconst 0) 1 55 ∧ Int32.ofInt 0 = 0 := by decide +kernel
theorem d_M_best_55 : dI prog_8_method_62_code 55 (.istore 6) 2 57 := by decide +kernel
theorem d_M_best_57 : dI prog_8_method_62_code 57 (.iconst 0) 1 58 ∧ Int32.ofInt 0 = 0 := by decide +kernel
theorem d_M_best_58 : dI prog_8_method_62_code 58 (.istore 7) 2 60 := by decide +kernel
theorem d_M_best_60 : dI prog_8_method_62_code 60 (.iload 7) 2 62 := by decide +kernel
theorem d_M_best_62 : dI prog_8_method_62_code 62 (.iload_n 3) 1 63 := by decide +kernel
theorem d_M_best_63 : dJ prog_8_method_62_code 63 (.if_icmp .ge 101) 101 66 164 := by decide +kernel
theorem d_M_best_66 : dI prog_8_method_62_code 66 (.aload_n 0) 1 67 := by decide +kernel
theorem d_M_best_67 : dI prog_8_method_62_code 67 (.invokevirtual 124) 3 70 := by decide +kernel
theorem d_M_best_70 : dI prog_8_method_62_code 70 (.aload_n 0) 1 71 := by decide +kernel
theorem d_M_best_71 : dI prog_8_method_62_code 71 (.iload_n 1) 1 72 := by decide +kernel
theorem d_M_best_72 : dI prog_8_method_62_code 72 (.iload 7) 2 74 := by decide +kernel
theorem d_M_best_74 : dI prog_8_method_62_code 74 (.invokevirtual 220) 3 77 := by decide +kernel
theorem d_M_best_77 : dI prog_8_method_62_code 77 (.istore 8) 2 79 := by decide +kernel
theorem d_M_best_79 : dI prog_8_method_62_code 79 (.aload_n 0) 1 80 := by decide +kernel
theorem d_M_best_80 : dI prog_8_method_62_code 80 (.getfield 7) 3 83 := by decide +kernel
theorem d_M_best_83 : dI prog_8_method_62_code 83 (.iconst 0) 1 84 ∧ Int32.ofInt 0 = 0 := by decide +kernel
theorem d_M_best_84 : dI prog_8_method_62_code 84 .iaload 1 85 := by decide +kernel
theorem d_M_best_85 : dI prog_8_method_62_code 85 (.aload_n 0) 1 86 := by decide +kernel
theorem d_M_best_86 : dI prog_8_method_62_code 86 (.getfield 16) 3 89 := by decide +kernel
theorem d_M_best_89 : dI prog_8_method_62_code 89 (.iconst 0) 1 90 ∧ Int32.ofInt 0 = 0 := by decide +kernel
theorem d_M_best_90 : dI prog_8_method_62_code 90 .iaload 1 91 := by decide +kernel
theorem d_M_best_91 : dI prog_8_method_62_code 91 .isub 1 92 := by decide +kernel
theorem d_M_best_92 : dI prog_8_method_62_code 92 (.istore 9) 2 94 := by decide +kernel
theorem d_M_best_94 : dI prog_8_method_62_code 94 (.aload_n 0) 1 95 := by decide +kernel
theorem d_M_best_95 : dI prog_8_method_62_code 95 (.getfield 7) 3 98 := by decide +kernel
theorem d_M_best_98 : dI prog_8_method_62_code 98 (.bipush 8) 2 100 ∧ (Int8.ofInt 8).toInt32 = 8 := by decide +kernel
theorem d_M_best_100 : dI prog_8_method_62_code 100 .iaload 1 101 := by decide +kernel
theorem d_M_best_101 : dI prog_8_method_62_code 101 (.aload_n 0) 1 102 := by decide +kernel
theorem d_M_best_102 : dI prog_8_method_62_code 102 (.getfield 16) 3 105 := by decide +kernel
theorem d_M_best_105 : dI prog_8_method_62_code 105 (.bipush 8) 2 107 ∧ (Int8.ofInt 8).toInt32 = 8 := by decide +kernel
theorem d_M_best_107 : dI prog_8_method_62_code 107 .iaload 1 108 := by decide +kernel
theorem d_M_best_108 : dI prog_8_method_62_code 108 .isub 1 109 := by decide +kernel
theorem d_M_best_109 : dI prog_8_method_62_code 109 (.istore 10) 2 111 := by decide +kernel
theorem d_M_best_111 : dI prog_8_method_62_code 111 (.aload_n 0) 1 112 := by decide +kernel
theorem d_M_best_112 : dI prog_8_method_62_code 112 (.invokevirtual 121) 3 115 := by decide +kernel
theorem d_M_best_115 : dI prog_8_method_62_code 115 (.iload 8) 2 117 := by decide +kernel
theorem d_M_best_117 : dJ prog_8_method_62_code 117 (.ifCond .eq 41) 41 120 158 := by decide +kernel
theorem d_M_best_120 : dI prog_8_method_62_code 120 (.iload 4) 2 122 := by decide +kernel
theorem d_M_best_122 : dJ prog_8_method_62_code 122 (.ifCond .lt 24) 24 125 146 := by decide +kernel
theorem d_M_best_125 : dI prog_8_method_62_code 125 (.iload 9) 2 127 := by decide +kernel
theorem d_M_best_127 : dI prog_8_method_62_code 127 (.iload 5) 2 129 := by decide +kernel
theorem d_M_best_129 : dJ prog_8_method_62_code 129 (.if_icmp .gt 17) 17 132 146 := by decide +kernel
theorem d_M_best_132 : dI prog_8_method_62_code 132 (.iload 9) 2 134 := by decide +kernel
theorem d_M_best_134 : dI prog_8_method_62_code 134 (.iload 5) 2 136 := by decide +kernel
theorem d_M_best_136 : dJ prog_8_method_62_code 136 (.if_icmp .ne 22) 22 139 158 := by decide +kernel
theorem d_M_best_139 : dI prog_8_method_62_code 139 (.iload 10) 2 141 := by decide +kernel
theorem d_M_best_141 : dI prog_8_method_62_code 141 (.iload 6) 2 143 := by decide +kernel
theorem d_M_best_143 : dJ prog_8_method_62_code 143 (.if_icmp .ge 15) 15 146 158 := by decide +kernel
theorem d_M_best_146 : dI prog_8_method_62_code 146 (.iload 7) 2 148 := by decide +kernel
theorem d_M_best_148 : dI prog_8_method_62_code 148 (.istore 4) 2 150 := by decide +kernel
theorem d_M_best_150 : dI prog_8_method_62_code 150 (.iload 9) 2 152 := by decide +kernel
theorem d_M_best_152 : dI prog_8_method_62_code 152 (.istore 5) 2 154 := by decide +kernel
theorem d_M_best_154 : dI prog_8_method_62_code 154 (.iload 10) 2 156 := by decide +kernel
theorem d_M_best_156 : dI prog_8_method_62_code 156 (.istore 6) 2 158 := by decide +kernel
theorem d_M_best_158 : dI prog_8_method_62_code 158 (.iinc 7 1) 3 161 ∧ Int32.ofInt 1 = 1 := by decide +kernel
theorem d_M_best_161 : dJ prog_8_method_62_code 161 (.goto (-101)) (-101) 164 60 := by decide +kernel
theorem d_M_best_164 : dI prog_8_method_62_code 164 (.iload 4) 2 166 := by decide +kernel
theorem d_M_best_166 : dJ prog_8_method_62_code 166 (.ifCond .ge 9) 9 169 175 := by decide +kernel
theorem d_M_best_169 : dI prog_8_method_62_code 169 (.aload_n 0) 1 170 := by decide +kernel
theorem d_M_best_170 : dI prog_8_method_62_code 170 (.iconst 3) 1 171 ∧ Int32.ofInt 3 = 3 := by decide +kernel
theorem d_M_best_171 : dI prog_8_method_62_code 171 (.invokevirtual 61) 3 174 := by decide +kernel
theorem d_M_best_174 : decode prog_8_method_62_code 174 = .ok (.ireturn, 1) := by decide +kernel
theorem d_M_best_175 : dI prog_8_method_62_code 175 (.iload_n 2) 1 176 := by decide +kernel
theorem d_M_best_176 : dJ prog_8_method_62_code 176 (.ifCond .ne 8) 8 179 184 := by decide +kernel
theorem d_M_best_179 : dI prog_8_method_62_code 179 (.iload 5) 2 181 := by decide +kernel
theorem d_M_best_181 : dJ prog_8_method_62_code 181 (.goto 19) 19 184 200 := by decide +kernel
theorem d_M_best_184 : dI prog_8_method_62_code 184 (.iload_n 2) 1 185 := by decide +kernel
theorem d_M_best_185 : dI prog_8_method_62_code 185 (.iconst 1) 1 186 ∧ Int32.ofInt 1 = 1 := by decide +kernel
theorem d_M_best_186 : dJ prog_8_method_62_code 186 (.if_icmp .ne 8) 8 189 194 := by decide +kernel
theorem d_M_best_189 : dI prog_8_method_62_code 189 (.iload 6) 2 191 := by decide +kernel
theorem d_M_best_191 : dJ prog_8_method_62_code 191 (.goto 9) 9 194 200 := by decide +kernel
theorem d_M_best_194 : dI prog_8_method_62_code 194 (.iload_n 1) 1 195 := by decide +kernel
theorem d_M_best_195 : dI prog_8_method_62_code 195 (.iload 4) 2 197 := by decide +kernel
theorem d_M_best_197 : dI prog_8_method_62_code 197 (.invokestatic 223) 3 200 := by decide +kernel
theorem d_M_best_200 : decode prog_8_method_62_code 200 = .ok (.ireturn, 1) := by decide +kernel
theorem d_M_airFor_0 : dI prog_8_method_63_code 0 (.iload_n 1) 1 1 := by decide +kernel
theorem d_M_airFor_1 : dI prog_8_method_63_code 1 (.invokestatic 49) 3 4 := by decide +kernel
theorem d_M_airFor_4 : dJ prog_8_method_63_code 4 (.ifCond .ne 9) 9 7 13 := by decide +kernel
theorem d_M_airFor_7 : dI prog_8_method_63_code 7 (.aload_n 0) 1 8 := by decide +kernel
theorem d_M_airFor_8 : dI prog_8_method_63_code 8 (.iconst 0) 1 9 ∧ Int32.ofInt 0 = 0 := by decide +kernel
theorem d_M_airFor_9 : dI prog_8_method_63_code 9 (.invokevirtual 61) 3 12 := by decide +kernel
theorem d_M_airFor_12 : decode prog_8_method_63_code 12 = .ok (.ireturn, 1) := by decide +kernel
theorem d_M_airFor_13 : dI prog_8_method_63_code 13 (.iconst 0) 1 14 ∧ Int32.ofInt 0 = 0 := by decide +kernel
theorem d_M_airFor_14 : dI prog_8_method_63_code 14 (.istore_n 2) 1 15 := by decide +kernel
theorem d_M_airFor_15 : dI prog_8_method_63_code 15 (.iload_n 2) 1 16 := by decide +kernel
theorem d_M_airFor_16 : dI prog_8_method_63_code 16 (.bipush 9) 2 18 ∧ (Int8.ofInt 9).toInt32 = 9 := by decide +kernel
theorem d_M_airFor_18 : dJ prog_8_method_63_code 18 (.if_icmp .gt 32) 32 21 50 := by decide +kernel
theorem d_M_airFor_21 : dI prog_8_method_63_code 21 (.aload_n 0) 1 22 := by decide +kernel
theorem d_M_airFor_22 : dI prog_8_method_63_code 22 (.aload_n 0) 1 23 := by decide +kernel
theorem d_M_airFor_23 : dI prog_8_method_63_code 23 (.getfield 7) 3 26 := by decide +kernel
theorem d_M_airFor_26 : dI prog_8_method_63_code 26 (.bipush 12) 2 28 ∧ (Int8.ofInt 12).toInt32 = 12 := by decide +kernel
theorem d_M_airFor_28 : dI prog_8_method_63_code 28 (.iload_n 1) 1 29 := by decide +kernel
theorem d_M_airFor_29 : dI prog_8_method_63_code 29 .iadd 1 30 := by decide +kernel
theorem d_M_airFor_30 : dI prog_8_method_63_code 30 .iaload 1 31 := by decide +kernel
theorem d_M_airFor_31 : dI prog_8_method_63_code 31 (.iload_n 2) 1 32 := by decide +kernel
theorem d_M_airFor_32 : dI prog_8_method_63_code 32 (.invokevirtual 57) 3 35 := by decide +kernel
theorem d_M_airFor_35 : dI prog_8_method_63_code 35 (.aload_n 0) 1 36 := by decide +kernel
theorem d_M_airFor_36 : dI prog_8_method_63_code 36 (.invokevirtual 78) 3 39 := by decide +kernel
theorem d_M_airFor_39 : dJ prog_8_method_63_code 39 (.if_icmp .lt 5) 5 42 44 := by decide +kernel
theorem d_M_airFor_42 : dI prog_8_method_63_code 42 (.iload_n 2) 1 43 := by decide +kernel
theorem d_M_airFor_43 : decode prog_8_method_63_code 43 = .ok (.ireturn, 1) := by decide +kernel
theorem d_M_airFor_44 : dI prog_8_method_63_code 44 (.iinc 2 1) 3 47 ∧ Int32.ofInt 1 = 1 := by decide +kernel
theorem d_M_airFor_47 : dJ prog_8_method_63_code 47 (.goto (-32)) (-32) 50 15 := by decide +kernel
theorem d_M_airFor_50 : dI prog_8_method_63_code 50 (.aload_n 0) 1 51 := by decide +kernel
theorem d_M_airFor_51 : dI prog_8_method_63_code 51 (.iconst 3) 1 52 ∧ Int32.ofInt 3 = 3 := by decide +kernel
theorem d_M_airFor_52 : dI prog_8_method_63_code 52 (.invokevirtual 61) 3 55 := by decide +kernel
theorem d_M_airFor_55 : decode prog_8_method_63_code 55 = .ok (.ireturn, 1) := by decide +kernel
theorem d_M_sacksFor_0 : dI prog_8_method_64_code 0 (.iload_n 1) 1 1 := by decide +kernel
theorem d_M_sacksFor_1 : dI prog_8_method_64_code 1 (.invokestatic 49) 3 4 := by decide +kernel
theorem d_M_sacksFor_4 : dJ prog_8_method_64_code 4 (.ifCond .ne 9) 9 7 13 := by decide +kernel
theorem d_M_sacksFor_7 : dI prog_8_method_64_code 7 (.aload_n 0) 1 8 := by decide +kernel
theorem d_M_sacksFor_8 : dI prog_8_method_64_code 8 (.iconst 0) 1 9 ∧ Int32.ofInt 0 = 0 := by decide +kernel
theorem d_M_sacksFor_9 : dI prog_8_method_64_code 9 (.invokevirtual 61) 3 12 := by decide +kernel
theorem d_M_sacksFor_12 : decode prog_8_method_64_code 12 = .ok (.ireturn, 1) := by decide +kernel
theorem d_M_sacksFor_13 : dI prog_8_method_64_code 13 (.bipush 99) 2 15 ∧ (Int8.ofInt 99).toInt32 = 99 := by decide +kernel
theorem d_M_sacksFor_15 : dI prog_8_method_64_code 15 (.istore_n 2) 1 16 := by decide +kernel
theorem d_M_sacksFor_16 : dI prog_8_method_64_code 16 (.iload_n 2) 1 17 := by decide +kernel
theorem d_M_sacksFor_17 : dJ prog_8_method_64_code 17 (.ifCond .lt 25) 25 20 42 := by decide +kernel
theorem d_M_sacksFor_20 : dI prog_8_method_64_code 20 (.aload_n 0) 1 21 := by decide +kernel
theorem d_M_sacksFor_21 : dI prog_8_method_64_code 21 (.iload_n 1) 1 22 := by decide +kernel
theorem d_M_sacksFor_22 : dI prog_8_method_64_code 22 (.invokevirtual 65) 3 25 := by decide +kernel
theorem d_M_sacksFor_25 : dI prog_8_method_64_code 25 (.bipush 20) 2 27 ∧ (Int8.ofInt 20).toInt32 = 20 := by decide +kernel
theorem d_M_sacksFor_27 : dI prog_8_method_64_code 27 (.iload_n 2) 1 28 := by decide +kernel
theorem d_M_sacksFor_28 : dI prog_8_method_64_code 28 (.iconst 2) 1 29 ∧ Int32.ofInt 2 = 2 := by decide +kernel
theorem d_M_sacksFor_29 : dI prog_8_method_64_code 29 .idiv 1 30 := by decide +kernel
theorem d_M_sacksFor_30 : dI prog_8_method_64_code 30 .iadd 1 31 := by decide +kernel
theorem d_M_sacksFor_31 : dJ prog_8_method_64_code 31 (.if_icmp .lt 5) 5 34 36 := by decide +kernel
theorem d_M_sacksFor_34 : dI prog_8_method_64_code 34 (.iload_n 2) 1 35 := by decide +kernel
theorem d_M_sacksFor_35 : decode prog_8_method_64_code 35 = .ok (.ireturn, 1) := by decide +kernel
theorem d_M_sacksFor_36 : dI prog_8_method_64_code 36 (.iinc 2 (-1)) 3 39 ∧ Int32.ofInt (-1) = (-1) := by decide +kernel
theorem d_M_sacksFor_39 : dJ prog_8_method_64_code 39 (.goto (-23)) (-23) 42 16 := by decide +kernel
theorem d_M_sacksFor_42 : dI prog_8_method_64_code 42 (.aload_n 0) 1 43 := by decide +kernel
theorem d_M_sacksFor_43 : dI prog_8_method_64_code 43 (.iconst 3) 1 44 ∧ Int32.ofInt 3 = 3 := by decide +kernel
theorem d_M_sacksFor_44 : dI prog_8_method_64_code 44 (.invokevirtual 61) 3 47 := by decide +kernel
theorem d_M_sacksFor_47 : decode prog_8_method_64_code 47 = .ok (.ireturn, 1) := by decide +kernel
theorem d_M_waterFor_0 : dI prog_8_method_65_code 0 (.aload_n 0) 1 1 := by decide +kernel
theorem d_M_waterFor_1 : dI prog_8_method_65_code 1 (.invokevirtual 124) 3 4 := by decide +kernel
theorem d_M_waterFor_4 : dI prog_8_method_65_code 4 (.iconst 0) 1 5 ∧ Int32.ofInt 0 = 0 := by decide +kernel
theorem d_M_waterFor_5 : dI prog_8_method_65_code 5 (.istore_n 1) 1 6 := by decide +kernel
theorem d_M_waterFor_6 : dI prog_8_method_65_code 6 (.iconst 0) 1 7 ∧ Int32.ofInt 0 = 0 := by decide +kernel
theorem d_M_waterFor_7 : dI prog_8_method_65_code 7 (.istore_n 2) 1 8 := by decide +kernel
theorem d_M_waterFor_8 : dI prog_8_method_65_code 8 (.iconst 1) 1 9 ∧ Int32.ofInt 1 = 1 := by decide +kernel
theorem d_M_waterFor_9 : dI prog_8_method_65_code 9 (.istore_n 3) 1 10 := by decide +kernel
theorem d_M_waterFor_10 : dI prog_8_method_65_code 10 (.iload_n 1) 1 11 := by decide +kernel
theorem d_M_waterFor_11 : dI prog_8_method_65_code 11 (.aload_n 0) 1 12 := by decide +kernel
theorem d_M_waterFor_12 : dI prog_8_method_65_code 12 (.getfield 7) 3 15 := by decide +kernel
theorem d_M_waterFor_15 : dI prog_8_method_65_code 15 (.bipush 11) 2 17 ∧ (Int8.ofInt 11).toInt32 = 11 := by decide +kernel
theorem d_M_waterFor_17 : dI prog_8_method_65_code 17 .iaload 1 18 := by decide +kernel
theorem d_M_waterFor_18 : dJ prog_8_method_65_code 18 (.if_icmp .ge 69) 69 21 87 := by decide +kernel
theorem d_M_waterFor_21 : dI prog_8_method_65_code 21 (.iload_n 3) 1 22 := by decide +kernel
theorem d_M_waterFor_22 : dJ prog_8_method_65_code 22 (.ifCond .eq 65) 65 25 87 := by decide +kernel
theorem d_M_waterFor_25 : dI prog_8_method_65_code 25 (.aload_n 0) 1 26 := by decide +kernel
theorem d_M_waterFor_26 : dI prog_8_method_65_code 26 (.getfield 7) 3 29 := by decide +kernel
theorem d_M_waterFor_29 : dI prog_8_method_65_code 29 (.bipush 6) 2 31 ∧ (Int8.ofInt 6).toInt32 = 6 := by decide +kernel
theorem d_M_waterFor_31 : dI prog_8_method_65_code 31 (.ldc 226) 2 33 := by decide +kernel
theorem d_M_waterFor_33 : dI prog_8_method_65_code 33 .iastore 1 34 := by decide +kernel
theorem d_M_waterFor_34 : dI prog_8_method_65_code 34 (.aload_n 0) 1 35 := by decide +kernel
theorem d_M_waterFor_35 : dI prog_8_method_65_code 35 (.aload_n 0) 1 36 := by decide +kernel
theorem d_M_waterFor_36 : dI prog_8_method_65_code 36 (.getfield 7) 3 39 := by decide +kernel
theorem d_M_waterFor_39 : dI prog_8_method_65_code 39 (.bipush 72) 2 41 ∧ (Int8.ofInt 72).toInt32 = 72 := by decide +kernel
theorem d_M_waterFor_41 : dI prog_8_method_65_code 41 (.iload_n 1) 1 42 := by decide +kernel
theorem d_M_waterFor_42 : dI prog_8_method_65_code 42 .iadd 1 43 := by decide +kernel
theorem d_M_waterFor_43 : dI prog_8_method_65_code 43 .iaload 1 44 := by decide +kernel
theorem d_M_waterFor_44 : dI prog_8_method_65_code 44 (.invokevirtual 114) 3 47 := by decide +kernel
theorem d_M_waterFor_47 : dI prog_8_method_65_code 47 (.istore_n 3) 1 48 := by decide +kernel
theorem d_M_waterFor_48 : dI prog_8_method_65_code 48 (.iload_n 3) 1 49 := by decide +kernel
theorem d_M_waterFor_49 : dJ prog_8_method_65_code 49 (.ifCond .eq (-39)) (-39) 52 10 := by decide +kernel
theorem d_M_waterFor_52 : dI prog_8_method_65_code 52 (.iload_n 2) 1 53 := by decide +kernel
theorem d_M_waterFor_53 : dI prog_8_method_65_code 53 (.aload_n 0) 1 54 := by decide +kernel
theorem d_M_waterFor_54 : dI prog_8_method_65_code 54 (.aload_n 0) 1 55 := by decide +kernel
theorem d_M_waterFor_55 : dI prog_8_method_65_code 55 (.getfield 7) 3 58 := by decide +kernel
theorem d_M_waterFor_58 : dI prog_8_method_65_code 58 (.bipush 72) 2 60 ∧ (Int8.ofInt 72).toInt32 = 72 := by decide +kernel
theorem d_M_waterFor_60 : dI prog_8_method_65_code 60 (.iload_n 1) 1 61 := by decide +kernel
theorem d_M_waterFor_61 : dI prog_8_method_65_code 61 .iadd 1 62 := by decide +kernel
theorem d_M_waterFor_62 : dI prog_8_method_65_code 62 .iaload 1 63 := by decide +kernel
theorem d_M_waterFor_63 : dI prog_8_method_65_code 63 (.invokevirtual 98) 3 66 := by decide +kernel
theorem d_M_waterFor_66 : dI prog_8_method_65_code 66 .iadd 1 67 := by decide +kernel
theorem d_M_waterFor_67 : dI prog_8_method_65_code 67 (.istore_n 2) 1 68 := by decide +kernel
theorem d_M_waterFor_68 : dI prog_8_method_65_code 68 (.aload_n 0) 1 69 := by decide +kernel
theorem d_M_waterFor_69 : dI prog_8_method_65_code 69 (.aload_n 0) 1 70 := by decide +kernel
theorem d_M_waterFor_70 : dI prog_8_method_65_code 70 (.getfield 7) 3 73 := by decide +kernel
theorem d_M_waterFor_73 : dI prog_8_method_65_code 73 (.bipush 72) 2 75 ∧ (Int8.ofInt 72).toInt32 = 72 := by decide +kernel
theorem d_M_waterFor_75 : dI prog_8_method_65_code 75 (.iload_n 1) 1 76 := by decide +kernel
theorem d_M_waterFor_76 : dI prog_8_method_65_code 76 .iadd 1 77 := by decide +kernel
theorem d_M_waterFor_77 : dI prog_8_method_65_code 77 .iaload 1 78 := by decide +kernel
theorem d_M_waterFor_78 : dI prog_8_method_65_code 78 (.invokevirtual 117) 3 81 := by decide +kernel
theorem d_M_waterFor_81 : dI prog_8_method_65_code 81 (.iinc 1 1) 3 84 ∧ Int32.ofInt 1 = 1 := by decide +kernel
theorem d_M_waterFor_84 : dJ prog_8_method_65_code 84 (.goto (-74)) (-74) 87 10 := by decide +kernel
theorem d_M_waterFor_87 : dI prog_8_method_65_code 87 (.aload_n 0) 1 88 := by decide +kernel
theorem d_M_waterFor_88 : dI prog_8_method_65_code 88 (.invokevirtual 121) 3 91 := by decide +kernel
theorem d_M_waterFor_91 : dI prog_8_method_65_code 91 (.iload_n 3) 1 92 := by decide +kernel
theorem d_M_waterFor_92 : dJ prog_8_method_65_code 92 (.ifCond .eq 14) 14 95 106 := by decide +kernel
theorem d_M_waterFor_95 : dI prog_8_method_65_code 95 (.iload_n 2) 1 96 := by decide +kernel
theorem d_M_waterFor_96 : dI prog_8_method_65_code 96 (.sipush 9999) 3 99 ∧ (Int16.ofInt 9999).toInt32 = 9999 := by decide +kernel
theorem d_M_waterFor_99 : dJ prog_8_method_65_code 99 (.if_icmp .gt 7) 7 102 106 := by decide +kernel
theorem d_M_waterFor_102 : dI prog_8_method_65_code 102 (.iload_n 2) 1 103 := by decide +kernel
theorem d_M_waterFor_103 : dJ prog_8_method_65_code 103 (.goto 8) 8 106 111 := by decide +kernel
theorem d_M_waterFor_106 : dI prog_8_method_65_code 106 (.aload_n 0) 1 107 := by decide +kernel
theorem d_M_waterFor_107 : dI prog_8_method_65_code 107 (.iconst 3) 1 108 ∧ Int32.ofInt 3 = 3 := by decide +kernel
theorem d_M_waterFor_108 : dI prog_8_method_65_code 108 (.invokevirtual 61) 3 111 := by decide +kernel
theorem d_M_waterFor_111 : decode prog_8_method_65_code 111 = .ok (.ireturn, 1) := by decide +kernel
theorem d_M_boardsFor_0 : dI prog_8_method_66_code 0 (.iload_n 1) 1 1 := by decide +kernel
theorem d_M_boardsFor_1 : dI prog_8_method_66_code 1 (.iconst 1) 1 2 ∧ Int32.ofInt 1 = 1 := by decide +kernel
theorem d_M_boardsFor_2 : dI prog_8_method_66_code 2 (.bipush 9) 2 4 ∧ (Int8.ofInt 9).toInt32 = 9 := by decide +kernel
theorem d_M_boardsFor_4 : dI prog_8_method_66_code 4 (.invokestatic 45) 3 7 := by decide +kernel
theorem d_M_boardsFor_7 : dJ prog_8_method_66_code 7 (.ifCond .ne 9) 9 10 16 := by decide +kernel
theorem d_M_boardsFor_10 : dI prog_8_method_66_code 10 (.aload_n 0) 1 11 := by decide +kernel
theorem d_M_boardsFor_11 : dI prog_8_method_66_code 11 (.iconst 0) 1 12 ∧ Int32.ofInt 0 = 0 := by decide +kernel
theorem d_M_boardsFor_12 : dI prog_8_method_66_code 12 (.invokevirtual 61) 3 15 := by decide +kernel
theorem d_M_boardsFor_15 : decode prog_8_method_66_code 15 = .ok (.ireturn, 1) := by decide +kernel
theorem d_M_boardsFor_16 : dI prog_8_method_66_code 16 (.iconst (-1)) 1 17 ∧ Int32.ofInt (-1) = (-1) := by decide +kernel
theorem d_M_boardsFor_17 : dI prog_8_method_66_code 17 (.istore_n 2) 1 18 := by decide +kernel
theorem d_M_boardsFor_18 : dI prog_8_method_66_code 18 (.iconst 0) 1 19 ∧ Int32.ofInt 0 = 0 := by decide +kernel
theorem d_M_boardsFor_19 : dI prog_8_method_66_code 19 (.istore_n 3) 1 20 := by decide +kernel
theorem d_M_boardsFor_20 : dI prog_8_method_66_code 20 (.iload_n 3) 1 21 := by decide +kernel
theorem d_M_boardsFor_21 : dI prog_8_method_66_code 21 (.bipush 8) 2 23 ∧ (Int8.ofInt 8).toInt32 = 8 := by decide +kernel
theorem d_M_boardsFor_23 : dJ prog_8_method_66_code 23 (.if_icmp .gt 73) 73 26 96 := by decide +kernel
theorem d_M_boardsFor_26 : dI prog_8_method_66_code 26 (.iload_n 2) 1 27 := by decide +kernel
theorem d_M_boardsFor_27 : dJ prog_8_method_66_code 27 (.ifCond .ge 69) 69 30 96 := by decide +kernel
theorem d_M_boardsFor_30 : dI prog_8_method_66_code 30 (.aload_n 0) 1 31 := by decide +kernel
theorem d_M_boardsFor_31 : dI prog_8_method_66_code 31 (.invokevirtual 124) 3 34 := by decide +kernel
theorem d_M_boardsFor_34 : dI prog_8_method_66_code 34 (.aload_n 0) 1 35 := by decide +kernel
theorem d_M_boardsFor_35 : dI prog_8_method_66_code 35 (.getfield 7) 3 38 := by decide +kernel
theorem d_M_boardsFor_38 : dI prog_8_method_66_code 38 (.iconst 4) 1 39 ∧ Int32.ofInt 4 = 4 := by decide +kernel
theorem d_M_boardsFor_39 : dI prog_8_method_66_code 39 (.iload_n 3) 1 40 := by decide +kernel
theorem d_M_boardsFor_40 : dI prog_8_method_66_code 40 .iastore 1 41 := by decide +kernel
theorem d_M_boardsFor_41 : dI prog_8_method_66_code 41 (.aload_n 0) 1 42 := by decide +kernel
theorem d_M_boardsFor_42 : dI prog_8_method_66_code 42 (.iconst 2) 1 43 ∧ Int32.ofInt 2 = 2 := by decide +kernel
theorem d_M_boardsFor_43 : dI prog_8_method_66_code 43 (.invokevirtual 114) 3 46 := by decide +kernel
theorem d_M_boardsFor_46 : dI prog_8_method_66_code 46 (.istore 4) 2 48 := by decide +kernel
theorem d_M_boardsFor_48 : dI prog_8_method_66_code 48 (.iload 4) 2 50 := by decide +kernel
theorem d_M_boardsFor_50 : dJ prog_8_method_66_code 50 (.ifCond .eq 8) 8 53 58 := by decide +kernel
theorem d_M_boardsFor_53 : dI prog_8_method_66_code 53 (.aload_n 0) 1 54 := by decide +kernel
theorem d_M_boardsFor_54 : dI prog_8_method_66_code 54 (.iconst 2) 1 55 ∧ Int32.ofInt 2 = 2 := by decide +kernel
theorem d_M_boardsFor_55 : dI prog_8_method_66_code 55 (.invokevirtual 117) 3 58 := by decide +kernel
theorem d_M_boardsFor_58 : dI prog_8_method_66_code 58 (.iload 4) 2 60 := by decide +kernel
theorem d_M_boardsFor_60 : dJ prog_8_method_66_code 60 (.ifCond .eq 24) 24 63 84 := by decide +kernel
theorem d_M_boardsFor_63 : dI prog_8_method_66_code 63 (.aload_n 0) 1 64 := by decide +kernel
theorem d_M_boardsFor_64 : dI prog_8_method_66_code 64 (.getfield 7) 3 67 := by decide +kernel
theorem d_M_boardsFor_67 : dI prog_8_method_66_code 67 (.iconst 0) 1 68 ∧ Int32.ofInt 0 = 0 := by decide +kernel
theorem d_M_boardsFor_68 : dI prog_8_method_66_code 68 .iaload 1 69 := by decide +kernel
theorem d_M_boardsFor_69 : dI prog_8_method_66_code 69 (.aload_n 0) 1 70 := by decide +kernel
theorem d_M_boardsFor_70 : dI prog_8_method_66_code 70 (.getfield 16) 3 73 := by decide +kernel
theorem d_M_boardsFor_73 : dI prog_8_method_66_code 73 (.iconst 0) 1 74 ∧ Int32.ofInt 0 = 0 := by decide +kernel
theorem d_M_boardsFor_74 : dI prog_8_method_66_code 74 .iaload 1 75 := by decide +kernel
theorem d_M_boardsFor_75 : dI prog_8_method_66_code 75 .isub 1 76 := by decide +kernel
theorem d_M_boardsFor_76 : dI prog_8_method_66_code 76 (.iload_n 1) 1 77 := by decide +kernel
theorem d_M_boardsFor_77 : dJ prog_8_method_66_code 77 (.if_icmp .lt 7) 7 80 84 := by decide +kernel
theorem d_M_boardsFor_80 : dI prog_8_method_66_code 80 (.iload_n 3) 1 81 := by decide +kernel
theorem d_M_boardsFor_81 : dJ prog_8_method_66_code 81 (.goto 4) 4 84 85 := by decide +kernel
theorem d_M_boardsFor_84 : dI prog_8_method_66_code 84 (.iconst (-1)) 1 85 ∧ Int32.ofInt (-1) = (-1) := by decide +kernel
theorem d_M_boardsFor_85 : dI prog_8_method_66_code 85 (.istore_n 2) 1 86 := by decide +kernel
theorem d_M_boardsFor_86 : dI prog_8_method_66_code 86 (.aload_n 0) 1 87 := by decide +kernel
theorem d_M_boardsFor_87 : dI prog_8_method_66_code 87 (.invokevirtual 121) 3 90 := by decide +kernel
theorem d_M_boardsFor_90 : dI prog_8_method_66_code 90 (.iinc 3 1) 3 93 ∧ Int32.ofInt 1 = 1 := by decide +kernel
theorem d_M_boardsFor_93 : dJ prog_8_method_66_code 93 (.goto (-73)) (-73) 96 20 := by decide +kernel
theorem d_M_boardsFor_96 : dI prog_8_method_66_code 96 (.iload_n 2) 1 97 := by decide +kernel
theorem d_M_boardsFor_97 : dJ prog_8_method_66_code 97 (.ifCond .ge 11) 11 100 108 := by decide +kernel
theorem d_M_boardsFor_100 : dI prog_8_method_66_code 100 (.aload_n 0) 1 101 := by decide +kernel
theorem d_M_boardsFor_101 : dI prog_8_method_66_code 101 (.iconst 3) 1 102 ∧ Int32.ofInt 3 = 3 := by decide +kernel
theorem d_M_boardsFor_102 : dI prog_8_method_66_code 102 (.invokevirtual 61) 3 105 := by decide +kernel
theorem d_M_boardsFor_105 : dJ prog_8_method_66_code 105 (.goto 4) 4 108 109 := by decide +kernel
theorem d_M_boardsFor_108 : dI prog_8_method_66_code 108 (.iload_n 2) 1 109 := by decide +kernel
theorem d_M_boardsFor_109 : decode prog_8_method_66_code 109 = .ok (.ireturn, 1) := by decide +kernel
theorem d_M_way_0 : dI prog_8_method_67_code 0 (.aload_n 0) 1 1 := by decide +kernel
theorem d_M_way_1 : dI prog_8_method_67_code 1 (.iconst 0) 1 2 ∧ Int32.ofInt 0 = 0 := by decide +kernel
theorem d_M_way_2 : dI prog_8_method_67_code 2 (.bipush 20) 2 4 ∧ (Int8.ofInt 20).toInt32 = 20 := by decide +kernel
theorem d_M_way_4 : dI prog_8_method_67_code 4 (.invokevirtual 133) 3 7 := by decide +kernel
theorem d_M_way_7 : dI prog_8_method_67_code 7 (.istore_n 1) 1 8 := by decide +kernel
theorem d_M_way_8 : dI prog_8_method_67_code 8 (.aload_n 0) 1 9 := by decide +kernel
theorem d_M_way_9 : dI prog_8_method_67_code 9 (.bipush 6) 2 11 ∧ (Int8.ofInt 6).toInt32 = 6 := by decide +kernel
theorem d_M_way_11 : dI prog_8_method_67_code 11 (.bipush 20) 2 13 ∧ (Int8.ofInt 20).toInt32 = 20 := by decide +kernel
theorem d_M_way_13 : dI prog_8_method_67_code 13 (.invokevirtual 133) 3 16 := by decide +kernel
theorem d_M_way_16 : dI prog_8_method_67_code 16 (.istore_n 2) 1 17 := by decide +kernel
theorem d_M_way_17 : dI prog_8_method_67_code 17 (.iload_n 1) 1 18 := by decide +kernel
theorem d_M_way_18 : dJ prog_8_method_67_code 18 (.ifCond .lt 16) 16 21 34 := by decide +kernel
theorem d_M_way_21 : dI prog_8_method_67_code 21 (.iload_n 2) 1 22 := by decide +kernel
theorem d_M_way_22 : dJ prog_8_method_67_code 22 (.ifCond .lt 8) 8 25 30 := by decide +kernel
theorem d_M_way_25 : dI prog_8_method_67_code 25 (.iload_n 1) 1 26 := by decide +kernel
theorem d_M_way_26 : dI prog_8_method_67_code 26 (.iload_n 2) 1 27 := by decide +kernel
theorem d_M_way_27 : dJ prog_8_method_67_code 27 (.if_icmp .gt 7) 7 30 34 := by decide +kernel
theorem d_M_way_30 : dI prog_8_method_67_code 30 (.iconst 1) 1 31 ∧ Int32.ofInt 1 = 1 := by decide +kernel
theorem d_M_way_31 : dJ prog_8_method_67_code 31 (.goto 12) 12 34 43 := by decide +kernel
theorem d_M_way_34 : dI prog_8_method_67_code 34 (.iload_n 2) 1 35 := by decide +kernel
theorem d_M_way_35 : dJ prog_8_method_67_code 35 (.ifCond .lt 7) 7 38 42 := by decide +kernel
theorem d_M_way_38 : dI prog_8_method_67_code 38 (.iconst (-1)) 1 39 ∧ Int32.ofInt (-1) = (-1) := by decide +kernel
theorem d_M_way_39 : dJ prog_8_method_67_code 39 (.goto 4) 4 42 43 := by decide +kernel
theorem d_M_way_42 : dI prog_8_method_67_code 42 (.iconst 0) 1 43 ∧ Int32.ofInt 0 = 0 := by decide +kernel
theorem d_M_way_43 : decode prog_8_method_67_code 43 = .ok (.ireturn, 1) := by decide +kernel
theorem d_M_odds_0 : dI prog_8_method_68_code 0 (.iload_n 1) 1 1 := by decide +kernel
theorem d_M_odds_1 : dI prog_8_method_68_code 1 (.iconst 1) 1 2 ∧ Int32.ofInt 1 = 1 := by decide +kernel
theorem d_M_odds_2 : dI prog_8_method_68_code 2 (.bipush 20) 2 4 ∧ (Int8.ofInt 20).toInt32 = 20 := by decide +kernel
theorem d_M_odds_4 : dI prog_8_method_68_code 4 (.invokestatic 45) 3 7 := by decide +kernel
theorem d_M_odds_7 : dJ prog_8_method_68_code 7 (.ifCond .ne 9) 9 10 16 := by decide +kernel
theorem d_M_odds_10 : dI prog_8_method_68_code 10 (.aload_n 0) 1 11 := by decide +kernel
theorem d_M_odds_11 : dI prog_8_method_68_code 11 (.iconst 0) 1 12 ∧ Int32.ofInt 0 = 0 := by decide +kernel
theorem d_M_odds_12 : dI prog_8_method_68_code 12 (.invokevirtual 61) 3 15 := by decide +kernel
theorem d_M_odds_15 : decode prog_8_method_68_code 15 = .ok (.ireturn, 1) := by decide +kernel
theorem d_M_odds_16 : dI prog_8_method_68_code 16 (.aload_n 0) 1 17 := by decide +kernel
theorem d_M_odds_17 : dI prog_8_method_68_code 17 (.invokevirtual 81) 3 20 := by decide +kernel
theorem d_M_odds_20 : dJ prog_8_method_68_code 20 (.ifCond .eq 9) 9 23 29 := by decide +kernel
theorem d_M_odds_23 : dI prog_8_method_68_code 23 (.aload_n 0) 1 24 := by decide +kernel
theorem d_M_odds_24 : dI prog_8_method_68_code 24 (.iconst 4) 1 25 ∧ Int32.ofInt 4 = 4 := by decide +kernel
theorem d_M_odds_25 : dI prog_8_method_68_code 25 (.invokevirtual 61) 3 28 := by decide +kernel
theorem d_M_odds_28 : decode prog_8_method_68_code 28 = .ok (.ireturn, 1) := by decide +kernel
theorem d_M_odds_29 : dI prog_8_method_68_code 29 (.iconst 0) 1 30 ∧ Int32.ofInt 0 = 0 := by decide +kernel
theorem d_M_odds_30 : dI prog_8_method_68_code 30 (.istore_n 2) 1 31 := by decide +kernel
theorem d_M_odds_31 : dI prog_8_method_68_code 31 (.iconst 0) 1 32 ∧ Int32.ofInt 0 = 0 := by decide +kernel
theorem d_M_odds_32 : dI prog_8_method_68_code 32 (.istore_n 3) 1 33 := by decide +kernel
theorem d_M_odds_33 : dI prog_8_method_68_code 33 (.iload_n 3) 1 34 := by decide +kernel
theorem d_M_odds_34 : dI prog_8_method_68_code 34 (.iload_n 1) 1 35 := by decide +kernel
theorem d_M_odds_35 : dJ prog_8_method_68_code 35 (.if_icmp .ge 41) 41 38 76 := by decide +kernel
theorem d_M_odds_38 : dI prog_8_method_68_code 38 (.iload_n 2) 1 39 := by decide +kernel
theorem d_M_odds_39 : dI prog_8_method_68_code 39 (.aload_n 0) 1 40 := by decide +kernel
theorem d_M_odds_40 : dI prog_8_method_68_code 40 (.aload_n 0) 1 41 := by decide +kernel
theorem d_M_odds_41 : dI prog_8_method_68_code 41 (.invokevirtual 86) 3 44 := by decide +kernel
theorem d_M_odds_44 : dI prog_8_method_68_code 44 (.bipush 100) 2 46 ∧ (Int8.ofInt 100).toInt32 = 100 := by decide +kernel
theorem d_M_odds_46 : dI prog_8_method_68_code 46 .irem 1 47 := by decide +kernel
theorem d_M_odds_47 : dI prog_8_method_68_code 47 (.aload_n 0) 1 48 := by decide +kernel
theorem d_M_odds_48 : dI prog_8_method_68_code 48 (.getfield 7) 3 51 := by decide +kernel
theorem d_M_odds_51 : dI prog_8_method_68_code 51 (.iconst 3) 1 52 ∧ Int32.ofInt 3 = 3 := by decide +kernel
theorem d_M_odds_52 : dI prog_8_method_68_code 52 .iaload 1 53 := by decide +kernel
theorem d_M_odds_53 : dI prog_8_method_68_code 53 (.invokevirtual 57) 3 56 := by decide +kernel
theorem d_M_odds_56 : dI prog_8_method_68_code 56 (.aload_n 0) 1 57 := by decide +kernel
theorem d_M_odds_57 : dI prog_8_method_68_code 57 (.invokevirtual 78) 3 60 := by decide +kernel
theorem d_M_odds_60 : dJ prog_8_method_68_code 60 (.if_icmp .lt 7) 7 63 67 := by decide +kernel
theorem d_M_odds_63 : dI prog_8_method_68_code 63 (.iconst 1) 1 64 ∧ Int32.ofInt 1 = 1 := by decide +kernel
theorem d_M_odds_64 : dJ prog_8_method_68_code 64 (.goto 4) 4 67 68 := by decide +kernel
theorem d_M_odds_67 : dI prog_8_method_68_code 67 (.iconst 0) 1 68 ∧ Int32.ofInt 0 = 0 := by decide +kernel
theorem d_M_odds_68 : dI prog_8_method_68_code 68 .iadd 1 69 := by decide +kernel
theorem d_M_odds_69 : dI prog_8_method_68_code 69 (.istore_n 2) 1 70 := by decide +kernel
theorem d_M_odds_70 : dI prog_8_method_68_code 70 (.iinc 3 1) 3 73 ∧ Int32.ofInt 1 = 1 := by decide +kernel
theorem d_M_odds_73 : dJ prog_8_method_68_code 73 (.goto (-40)) (-40) 76 33 := by decide +kernel
theorem d_M_odds_76 : dI prog_8_method_68_code 76 (.iload_n 2) 1 77 := by decide +kernel
theorem d_M_odds_77 : decode prog_8_method_68_code 77 = .ok (.ireturn, 1) := by decide +kernel
theorem d_M_seed_0 : dI prog_8_method_69_code 0 (.aload_n 0) 1 1 := by decide +kernel
theorem d_M_seed_1 : dI prog_8_method_69_code 1 (.getfield 7) 3 4 := by decide +kernel
theorem d_M_seed_4 : dI prog_8_method_69_code 4 (.bipush 10) 2 6 ∧ (Int8.ofInt 10).toInt32 = 10 := by decide +kernel
theorem d_M_seed_6 : dI prog_8_method_69_code 6 .iaload 1 7 := by decide +kernel
theorem d_M_seed_7 : dI prog_8_method_69_code 7 (.istore_n 2) 1 8 := by decide +kernel
theorem d_M_seed_8 : dI prog_8_method_69_code 8 (.aload_n 0) 1 9 := by decide +kernel
theorem d_M_seed_9 : dI prog_8_method_69_code 9 (.getfield 7) 3 12 := by decide +kernel
theorem d_M_seed_12 : dI prog_8_method_69_code 12 (.bipush 10) 2 14 ∧ (Int8.ofInt 10).toInt32 = 10 := by decide +kernel
theorem d_M_seed_14 : dI prog_8_method_69_code 14 (.iload_n 1) 1 15 := by decide +kernel
theorem d_M_seed_15 : dI prog_8_method_69_code 15 .iastore 1 16 := by decide +kernel
theorem d_M_seed_16 : dI prog_8_method_69_code 16 (.iload_n 2) 1 17 := by decide +kernel
theorem d_M_seed_17 : decode prog_8_method_69_code 17 = .ok (.ireturn, 1) := by decide +kernel
theorem d_M_hold_0 : dI prog_8_method_70_code 0 (.iload_n 1) 1 1 := by decide +kernel
theorem d_M_hold_1 : dI prog_8_method_70_code 1 (.iconst 0) 1 2 ∧ Int32.ofInt 0 = 0 := by decide +kernel
theorem d_M_hold_2 : dI prog_8_method_70_code 2 (.bipush 9) 2 4 ∧ (Int8.ofInt 9).toInt32 = 9 := by decide +kernel
theorem d_M_hold_4 : dI prog_8_method_70_code 4 (.invokestatic 45) 3 7 := by decide +kernel
theorem d_M_hold_7 : dJ prog_8_method_70_code 7 (.ifCond .eq 15) 15 10 22 := by decide +kernel
theorem d_M_hold_10 : dI prog_8_method_70_code 10 (.iload_n 2) 1 11 := by decide +kernel
theorem d_M_hold_11 : dI prog_8_method_70_code 11 (.iconst (-1)) 1 12 ∧ Int32.ofInt (-1) = (-1) := by decide +kernel
theorem d_M_hold_12 : dJ prog_8_method_70_code 12 (.if_icmp .eq 16) 16 15 28 := by decide +kernel
theorem d_M_hold_15 : dI prog_8_method_70_code 15 (.iload_n 2) 1 16 := by decide +kernel
theorem d_M_hold_16 : dI prog_8_method_70_code 16 (.invokestatic 108) 3 19 := by decide +kernel
theorem d_M_hold_19 : dJ prog_8_method_70_code 19 (.ifCond .ne 9) 9 22 28 := by decide +kernel
theorem d_M_hold_22 : dI prog_8_method_70_code 22 (.aload_n 0) 1 23 := by decide +kernel
theorem d_M_hold_23 : dI prog_8_method_70_code 23 (.iconst 0) 1 24 ∧ Int32.ofInt 0 = 0 := by decide +kernel
theorem d_M_hold_24 : dI prog_8_method_70_code 24 (.invokevirtual 61) 3 27 := by decide +kernel
theorem d_M_hold_27 : decode prog_8_method_70_code 27 = .ok (.ireturn, 1) := by decide +kernel
theorem d_M_hold_28 : dI prog_8_method_70_code 28 (.aload_n 0) 1 29 := by decide +kernel
theorem d_M_hold_29 : dI prog_8_method_70_code 29 (.getfield 7) 3 32 := by decide +kernel
theorem d_M_hold_32 : dI prog_8_method_70_code 32 (.bipush 62) 2 34 ∧ (Int8.ofInt 62).toInt32 = 62 := by decide +kernel
theorem d_M_hold_34 : dI prog_8_method_70_code 34 (.iload_n 1) 1 35 := by decide +kernel
theorem d_M_hold_35 : dI prog_8_method_70_code 35 .iadd 1 36 := by decide +kernel
theorem d_M_hold_36 : dI prog_8_method_70_code 36 (.iload_n 2) 1 37 := by decide +kernel
theorem d_M_hold_37 : dI prog_8_method_70_code 37 .iastore 1 38 := by decide +kernel
theorem d_M_hold_38 : dI prog_8_method_70_code 38 (.iconst 1) 1 39 ∧ Int32.ofInt 1 = 1 := by decide +kernel
theorem d_M_hold_39 : decode prog_8_method_70_code 39 = .ok (.ireturn, 1) := by decide +kernel
theorem d_M_isUnder_0 : dI prog_8_method_71_code 0 (.iload_n 1) 1 1 := by decide +kernel
theorem d_M_isUnder_1 : dJ prog_8_method_71_code 1 (.ifCond .eq 33) 33 4 34 := by decide +kernel
theorem d_M_isUnder_4 : dI prog_8_method_71_code 4 (.iload_n 0) 1 5 := by decide +kernel
theorem d_M_isUnder_5 : dI prog_8_method_71_code 5 (.iload_n 1) 1 6 := by decide +kernel
theorem d_M_isUnder_6 : dJ prog_8_method_71_code 6 (.if_icmp .eq 28) 28 9 34 := by decide +kernel
theorem d_M_isUnder_9 : dI prog_8_method_71_code 9 (.iload_n 1) 1 10 := by decide +kernel
theorem d_M_isUnder_10 : dI prog_8_method_71_code 10 (.iconst 1) 1 11 ∧ Int32.ofInt 1 = 1 := by decide +kernel
theorem d_M_isUnder_11 : dJ prog_8_method_71_code 11 (.if_icmp .ne 13) 13 14 24 := by decide +kernel
theorem d_M_isUnder_14 : dI prog_8_method_71_code 14 (.iload_n 0) 1 15 := by decide +kernel
theorem d_M_isUnder_15 : dI prog_8_method_71_code 15 (.iconst 2) 1 16 ∧ Int32.ofInt 2 = 2 := by decide +kernel
theorem d_M_isUnder_16 : dJ prog_8_method_71_code 16 (.if_icmp .eq 18) 18 19 34 := by decide +kernel
theorem d_M_isUnder_19 : dI prog_8_method_71_code 19 (.iload_n 0) 1 20 := by decide +kernel
theorem d_M_isUnder_20 : dI prog_8_method_71_code 20 (.iconst 5) 1 21 ∧ Int32.ofInt 5 = 5 := by decide +kernel
theorem d_M_isUnder_21 : dJ prog_8_method_71_code 21 (.if_icmp .eq 13) 13 24 34 := by decide +kernel
theorem d_M_isUnder_24 : dI prog_8_method_71_code 24 (.iload_n 1) 1 25 := by decide +kernel
theorem d_M_isUnder_25 : dI prog_8_method_71_code 25 (.iconst 2) 1 26 ∧ Int32.ofInt 2 = 2 := by decide +kernel
theorem d_M_isUnder_26 : dJ prog_8_method_71_code 26 (.if_icmp .ne 12) 12 29 38 := by decide +kernel
theorem d_M_isUnder_29 : dI prog_8_method_71_code 29 (.iload_n 0) 1 30 := by decide +kernel
theorem d_M_isUnder_30 : dI prog_8_method_71_code 30 (.iconst 5) 1 31 ∧ Int32.ofInt 5 = 5 := by decide +kernel
theorem d_M_isUnder_31 : dJ prog_8_method_71_code 31 (.if_icmp .ne 7) 7 34 38 := by decide +kernel
theorem d_M_isUnder_34 : dI prog_8_method_71_code 34 (.iconst 1) 1 35 ∧ Int32.ofInt 1 = 1 := by decide +kernel
theorem d_M_isUnder_35 : dJ prog_8_method_71_code 35 (.goto 4) 4 38 39 := by decide +kernel
theorem d_M_isUnder_38 : dI prog_8_method_71_code 38 (.iconst 0) 1 39 ∧ Int32.ofInt 0 = 0 := by decide +kernel
theorem d_M_isUnder_39 : decode prog_8_method_71_code 39 = .ok (.ireturn, 1) := by decide +kernel
theorem d_M_as_0 : dI prog_8_method_72_code 0 (.iload_n 1) 1 1 := by decide +kernel
theorem d_M_as_1 : dI prog_8_method_72_code 1 (.iconst 0) 1 2 ∧ Int32.ofInt 0 = 0 := by decide +kernel
theorem d_M_as_2 : dI prog_8_method_72_code 2 (.bipush 9) 2 4 ∧ (Int8.ofInt 9).toInt32 = 9 := by decide +kernel
theorem d_M_as_4 : dI prog_8_method_72_code 4 (.invokestatic 45) 3 7 := by decide +kernel
theorem d_M_as_7 : dJ prog_8_method_72_code 7 (.ifCond .eq 10) 10 10 17 := by decide +kernel
theorem d_M_as_10 : dI prog_8_method_72_code 10 (.iload_n 2) 1 11 := by decide +kernel
theorem d_M_as_11 : dI prog_8_method_72_code 11 (.invokestatic 111) 3 14 := by decide +kernel
theorem d_M_as_14 : dJ prog_8_method_72_code 14 (.ifCond .ne 9) 9 17 23 := by decide +kernel
theorem d_M_as_17 : dI prog_8_method_72_code 17 (.aload_n 0) 1 18 := by decide +kernel
theorem d_M_as_18 : dI prog_8_method_72_code 18 (.iconst 0) 1 19 ∧ Int32.ofInt 0 = 0 := by decide +kernel
theorem d_M_as_19 : dI prog_8_method_72_code 19 (.invokevirtual 61) 3 22 := by decide +kernel
theorem d_M_as_22 : decode prog_8_method_72_code 22 = .ok (.ireturn, 1) := by decide +kernel
theorem d_M_as_23 : dI prog_8_method_72_code 23 (.aload_n 0) 1 24 := by decide +kernel
theorem d_M_as_24 : dI prog_8_method_72_code 24 (.getfield 7) 3 27 := by decide +kernel
theorem d_M_as_27 : dI prog_8_method_72_code 27 (.bipush 62) 2 29 ∧ (Int8.ofInt 62).toInt32 = 62 := by decide +kernel
theorem d_M_as_29 : dI prog_8_method_72_code 29 (.iload_n 1) 1 30 := by decide +kernel
theorem d_M_as_30 : dI prog_8_method_72_code 30 .iadd 1 31 := by decide +kernel
theorem d_M_as_31 : dI prog_8_method_72_code 31 .iaload 1 32 := by decide +kernel
theorem d_M_as_32 : dI prog_8_method_72_code 32 (.istore_n 3) 1 33 := by decide +kernel
theorem d_M_as_33 : dI prog_8_method_72_code 33 (.iload_n 3) 1 34 := by decide +kernel
theorem d_M_as_34 : dI prog_8_method_72_code 34 (.iconst (-1)) 1 35 ∧ Int32.ofInt (-1) = (-1) := by decide +kernel
theorem d_M_as_35 : dJ prog_8_method_72_code 35 (.if_icmp .eq 16) 16 38 51 := by decide +kernel
theorem d_M_as_38 : dI prog_8_method_72_code 38 (.aload_n 0) 1 39 := by decide +kernel
theorem d_M_as_39 : dI prog_8_method_72_code 39 (.getfield 7) 3 42 := by decide +kernel
theorem d_M_as_42 : dI prog_8_method_72_code 42 (.bipush 52) 2 44 ∧ (Int8.ofInt 52).toInt32 = 52 := by decide +kernel
theorem d_M_as_44 : dI prog_8_method_72_code 44 (.iload_n 3) 1 45 := by decide +kernel
theorem d_M_as_45 : dI prog_8_method_72_code 45 .iadd 1 46 := by decide +kernel
theorem d_M_as_46 : dI prog_8_method_72_code 46 .iaload 1 47 := by decide +kernel
theorem d_M_as_47 : dI prog_8_method_72_code 47 (.iconst (-1)) 1 48 ∧ Int32.ofInt (-1) = (-1) := by decide +kernel
theorem d_M_as_48 : dJ prog_8_method_72_code 48 (.if_icmp .ne 9) 9 51 57 := by decide +kernel
theorem d_M_as_51 : dI prog_8_method_72_code 51 (.aload_n 0) 1 52 := by decide +kernel
theorem d_M_as_52 : dI prog_8_method_72_code 52 (.iconst 5) 1 53 ∧ Int32.ofInt 5 = 5 := by decide +kernel
theorem d_M_as_53 : dI prog_8_method_72_code 53 (.invokevirtual 61) 3 56 := by decide +kernel
theorem d_M_as_56 : decode prog_8_method_72_code 56 = .ok (.ireturn, 1) := by decide +kernel
theorem d_M_as_57 : dI prog_8_method_72_code 57 (.aload_n 0) 1 58 := by decide +kernel
theorem d_M_as_58 : dI prog_8_method_72_code 58 (.getfield 7) 3 61 := by decide +kernel
theorem d_M_as_61 : dI prog_8_method_72_code 61 (.bipush 52) 2 63 ∧ (Int8.ofInt 52).toInt32 = 52 := by decide +kernel
theorem d_M_as_63 : dI prog_8_method_72_code 63 (.iload_n 3) 1 64 := by decide +kernel
theorem d_M_as_64 : dI prog_8_method_72_code 64 .iadd 1 65 := by decide +kernel
theorem d_M_as_65 : dI prog_8_method_72_code 65 .iaload 1 66 := by decide +kernel
theorem d_M_as_66 : dI prog_8_method_72_code 66 (.iload_n 2) 1 67 := by decide +kernel
theorem d_M_as_67 : dI prog_8_method_72_code 67 (.invokestatic 227) 3 70 := by decide +kernel
theorem d_M_as_70 : dJ prog_8_method_72_code 70 (.ifCond .eq 7) 7 73 77 := by decide +kernel
theorem d_M_as_73 : dI prog_8_method_72_code 73 (.iload_n 3) 1 74 := by decide +kernel
theorem d_M_as_74 : dJ prog_8_method_72_code 74 (.goto 8) 8 77 82 := by decide +kernel
theorem d_M_as_77 : dI prog_8_method_72_code 77 (.aload_n 0) 1 78 := by decide +kernel
theorem d_M_as_78 : dI prog_8_method_72_code 78 (.iconst 2) 1 79 ∧ Int32.ofInt 2 = 2 := by decide +kernel
theorem d_M_as_79 : dI prog_8_method_72_code 79 (.invokevirtual 61) 3 82 := by decide +kernel
theorem d_M_as_82 : decode prog_8_method_72_code 82 = .ok (.ireturn, 1) := by decide +kernel
theorem d_M_isSheet_0 : dI prog_8_method_73_code 0 (.iload_n 0) 1 1 := by decide +kernel
theorem d_M_isSheet_1 : dI prog_8_method_73_code 1 (.iconst 0) 1 2 ∧ Int32.ofInt 0 = 0 := by decide +kernel
theorem d_M_isSheet_2 : dI prog_8_method_73_code 2 (.iconst 3) 1 3 ∧ Int32.ofInt 3 = 3 := by decide +kernel
theorem d_M_isSheet_3 : dI prog_8_method_73_code 3 (.invokestatic 45) 3 6 := by decide +kernel
theorem d_M_isSheet_6 : decode prog_8_method_73_code 6 = .ok (.ireturn, 1) := by decide +kernel
theorem d_M_sheet_0 : dI prog_8_method_74_code 0 (.iload_n 1) 1 1 := by decide +kernel
theorem d_M_sheet_1 : dI prog_8_method_74_code 1 (.invokestatic 230) 3 4 := by decide +kernel
theorem d_M_sheet_4 : dJ prog_8_method_74_code 4 (.ifCond .eq 25) 25 7 29 := by decide +kernel
theorem d_M_sheet_7 : dI prog_8_method_74_code 7 (.iload_n 2) 1 8 := by decide +kernel
theorem d_M_sheet_8 : dJ prog_8_method_74_code 8 (.ifCond .eq 27) 27 11 35 := by decide +kernel
theorem d_M_sheet_11 : dI prog_8_method_74_code 11 (.iload_n 2) 1 12 := by decide +kernel
theorem d_M_sheet_12 : dI prog_8_method_74_code 12 (.bipush 8) 2 14 ∧ (Int8.ofInt 8).toInt32 = 8 := by decide +kernel
theorem d_M_sheet_14 : dJ prog_8_method_74_code 14 (.if_icmp .eq 21) 21 17 35 := by decide +kernel
theorem d_M_sheet_17 : dI prog_8_method_74_code 17 (.iload_n 2) 1 18 := by decide +kernel
theorem d_M_sheet_18 : dI prog_8_method_74_code 18 (.bipush 16) 2 20 ∧ (Int8.ofInt 16).toInt32 = 16 := by decide +kernel
theorem d_M_sheet_20 : dJ prog_8_method_74_code 20 (.if_icmp .eq 15) 15 23 35 := by decide +kernel
theorem d_M_sheet_23 : dI prog_8_method_74_code 23 (.iload_n 2) 1 24 := by decide +kernel
theorem d_M_sheet_24 : dI prog_8_method_74_code 24 (.bipush 32) 2 26 ∧ (Int8.ofInt 32).toInt32 = 32 := by decide +kernel
theorem d_M_sheet_26 : dJ prog_8_method_74_code 26 (.if_icmp .eq 9) 9 29 35 := by decide +kernel
theorem d_M_sheet_29 : dI prog_8_method_74_code 29 (.aload_n 0) 1 30 := by decide +kernel
theorem d_M_sheet_30 : dI prog_8_method_74_code 30 (.iconst 0) 1 31 ∧ Int32.ofInt 0 = 0 := by decide +kernel
theorem d_M_sheet_31 : dI prog_8_method_74_code 31 (.invokevirtual 61) 3 34 := by decide +kernel
theorem d_M_sheet_34 : decode prog_8_method_74_code 34 = .ok (.ireturn, 1) := by decide +kernel
theorem d_M_sheet_35 : dI prog_8_method_74_code 35 (.iload_n 3) 1 36 := by decide +kernel
theorem d_M_sheet_36 : dJ prog_8_method_74_code 36 (.ifCond .ge 10) 10 39 46 := by decide +kernel
theorem d_M_sheet_39 : dI prog_8_method_74_code 39 (.aload_n 0) 1 40 := by decide +kernel
theorem d_M_sheet_40 : dI prog_8_method_74_code 40 (.bipush 6) 2 42 ∧ (Int8.ofInt 6).toInt32 = 6 := by decide +kernel
theorem d_M_sheet_42 : dI prog_8_method_74_code 42 (.invokevirtual 61) 3 45 := by decide +kernel
theorem d_M_sheet_45 : decode prog_8_method_74_code 45 = .ok (.ireturn, 1) := by decide +kernel
theorem d_M_sheet_46 : dI prog_8_method_74_code 46 (.iload_n 3) 1 47 := by decide +kernel
theorem d_M_sheet_47 : dI prog_8_method_74_code 47 (.bipush 40) 2 49 ∧ (Int8.ofInt 40).toInt32 = 40 := by decide +kernel
theorem d_M_sheet_49 : dJ prog_8_method_74_code 49 (.if_icmp .le 9) 9 52 58 := by decide +kernel
theorem d_M_sheet_52 : dI prog_8_method_74_code 52 (.aload_n 0) 1 53 := by decide +kernel
theorem d_M_sheet_53 : dI prog_8_method_74_code 53 (.iconst 0) 1 54 ∧ Int32.ofInt 0 = 0 := by decide +kernel
theorem d_M_sheet_54 : dI prog_8_method_74_code 54 (.invokevirtual 61) 3 57 := by decide +kernel
theorem d_M_sheet_57 : decode prog_8_method_74_code 57 = .ok (.ireturn, 1) := by decide +kernel
theorem d_M_sheet_58 : dI prog_8_method_74_code 58 (.aload_n 0) 1 59 := by decide +kernel
theorem d_M_sheet_59 : dI prog_8_method_74_code 59 (.getfield 28) 3 62 := by decide +kernel
theorem d_M_sheet_62 : dI prog_8_method_74_code 62 (.iload_n 1) 1 63 := by decide +kernel
theorem d_M_sheet_63 : dI prog_8_method_74_code 63 (.iload_n 2) 1 64 := by decide +kernel
theorem d_M_sheet_64 : dI prog_8_method_74_code 64 .iastore 1 65 := by decide +kernel
theorem d_M_sheet_65 : dI prog_8_method_74_code 65 (.aload_n 0) 1 66 := by decide +kernel
theorem d_M_sheet_66 : dI prog_8_method_74_code 66 (.getfield 31) 3 69 := by decide +kernel
theorem d_M_sheet_69 : dI prog_8_method_74_code 69 (.iload_n 1) 1 70 := by decide +kernel
theorem d_M_sheet_70 : dI prog_8_method_74_code 70 (.iload_n 2) 1 71 := by decide +kernel
theorem d_M_sheet_71 : dJ prog_8_method_74_code 71 (.ifCond .ne 7) 7 74 78 := by decide +kernel
theorem d_M_sheet_74 : dI prog_8_method_74_code 74 (.iconst 0) 1 75 ∧ Int32.ofInt 0 = 0 := by decide +kernel
theorem d_M_sheet_75 : dJ prog_8_method_74_code 75 (.goto 4) 4 78 79 := by decide +kernel
theorem d_M_sheet_78 : dI prog_8_method_74_code 78 (.iload_n 3) 1 79 := by decide +kernel
theorem d_M_sheet_79 : dI prog_8_method_74_code 79 .iastore 1 80 := by decide +kernel
theorem d_M_sheet_80 : dI prog_8_method_74_code 80 (.iconst 0) 1 81 ∧ Int32.ofInt 0 = 0 := by decide +kernel
theorem d_M_sheet_81 : dI prog_8_method_74_code 81 (.istore 4) 2 83 := by decide +kernel
theorem d_M_sheet_83 : dI prog_8_method_74_code 83 (.iload 4) 2 85 := by decide +kernel
theorem d_M_sheet_85 : dI prog_8_method_74_code 85 (.bipush 40) 2 87 ∧ (Int8.ofInt 40).toInt32 = 40 := by decide +kernel
theorem d_M_sheet_87 : dJ prog_8_method_74_code 87 (.if_icmp .ge 22) 22 90 109 := by decide +kernel
theorem d_M_sheet_90 : dI prog_8_method_74_code 90 (.aload_n 0) 1 91 := by decide +kernel
theorem d_M_sheet_91 : dI prog_8_method_74_code 91 (.getfield 34) 3 94 := by decide +kernel
theorem d_M_sheet_94 : dI prog_8_method_74_code 94 (.bipush 40) 2 96 ∧ (Int8.ofInt 40).toInt32 = 40 := by decide +kernel
theorem d_M_sheet_96 : dI prog_8_method_74_code 96 (.iload_n 1) 1 97 := by decide +kernel
theorem d_M_sheet_97 : dI prog_8_method_74_code 97 .imul 1 98 := by decide +kernel
theorem d_M_sheet_98 : dI prog_8_method_74_code 98 (.iload 4) 2 100 := by decide +kernel
theorem d_M_sheet_100 : dI prog_8_method_74_code 100 .iadd 1 101 := by decide +kernel
theorem d_M_sheet_101 : dI prog_8_method_74_code 101 (.iconst 0) 1 102 ∧ Int32.ofInt 0 = 0 := by decide +kernel
theorem d_M_sheet_102 : dI prog_8_method_74_code 102 .iastore 1 103 := by decide +kernel
theorem d_M_sheet_103 : dI prog_8_method_74_code 103 (.iinc 4 1) 3 106 ∧ Int32.ofInt 1 = 1 := by decide +kernel
theorem d_M_sheet_106 : dJ prog_8_method_74_code 106 (.goto (-23)) (-23) 109 83 := by decide +kernel
theorem d_M_sheet_109 : dI prog_8_method_74_code 109 (.aload_n 0) 1 110 := by decide +kernel
theorem d_M_sheet_110 : dI prog_8_method_74_code 110 (.getfield 31) 3 113 := by decide +kernel
theorem d_M_sheet_113 : dI prog_8_method_74_code 113 (.iload_n 1) 1 114 := by decide +kernel
theorem d_M_sheet_114 : dI prog_8_method_74_code 114 .iaload 1 115 := by decide +kernel
theorem d_M_sheet_115 : decode prog_8_method_74_code 115 = .ok (.ireturn, 1) := by decide +kernel
theorem d_M_write_0 : dI prog_8_method_75_code 0 (.iload_n 1) 1 1 := by decide +kernel
theorem d_M_write_1 : dI prog_8_method_75_code 1 (.invokestatic 230) 3 4 := by decide +kernel
theorem d_M_write_4 : dJ prog_8_method_75_code 4 (.ifCond .ne 9) 9 7 13 := by decide +kernel
theorem d_M_write_7 : dI prog_8_method_75_code 7 (.aload_n 0) 1 8 := by decide +kernel
theorem d_M_write_8 : dI prog_8_method_75_code 8 (.iconst 0) 1 9 ∧ Int32.ofInt 0 = 0 := by decide +kernel
theorem d_M_write_9 : dI prog_8_method_75_code 9 (.invokevirtual 61) 3 12 := by decide +kernel
theorem d_M_write_12 : decode prog_8_method_75_code 12 = .ok (.ireturn, 1) := by decide +kernel
theorem d_M_write_13 : dI prog_8_method_75_code 13 (.aload_n 0) 1 14 := by decide +kernel
theorem d_M_write_14 : dI prog_8_method_75_code 14 (.getfield 28) 3 17 := by decide +kernel
theorem d_M_write_17 : dI prog_8_method_75_code 17 (.iload_n 1) 1 18 := by decide +kernel
theorem d_M_write_18 : dI prog_8_method_75_code 18 .iaload 1 19 := by decide +kernel
theorem d_M_write_19 : dJ prog_8_method_75_code 19 (.ifCond .ne 9) 9 22 28 := by decide +kernel
theorem d_M_write_22 : dI prog_8_method_75_code 22 (.aload_n 0) 1 23 := by decide +kernel
theorem d_M_write_23 : dI prog_8_method_75_code 23 (.iconst 5) 1 24 ∧ Int32.ofInt 5 = 5 := by decide +kernel
theorem d_M_write_24 : dI prog_8_method_75_code 24 (.invokevirtual 61) 3 27 := by decide +kernel
theorem d_M_write_27 : decode prog_8_method_75_code 27 = .ok (.ireturn, 1) := by decide +kernel
theorem d_M_write_28 : dI prog_8_method_75_code 28 (.iload_n 2) 1 29 := by decide +kernel
theorem d_M_write_29 : dI prog_8_method_75_code 29 (.iconst 0) 1 30 ∧ Int32.ofInt 0 = 0 := by decide +kernel
theorem d_M_write_30 : dI prog_8_method_75_code 30 (.aload_n 0) 1 31 := by decide +kernel
theorem d_M_write_31 : dI prog_8_method_75_code 31 (.getfield 31) 3 34 := by decide +kernel
theorem d_M_write_34 : dI prog_8_method_75_code 34 (.iload_n 1) 1 35 := by decide +kernel
theorem d_M_write_35 : dI prog_8_method_75_code 35 .iaload 1 36 := by decide +kernel
theorem d_M_write_36 : dI prog_8_method_75_code 36 (.iconst 1) 1 37 ∧ Int32.ofInt 1 = 1 := by decide +kernel
theorem d_M_write_37 : dI prog_8_method_75_code 37 .isub 1 38 := by decide +kernel
theorem d_M_write_38 : dI prog_8_method_75_code 38 (.invokestatic 45) 3 41 := by decide +kernel
theorem d_M_write_41 : dJ prog_8_method_75_code 41 (.ifCond .ne 9) 9 44 50 := by decide +kernel
theorem d_M_write_44 : dI prog_8_method_75_code 44 (.aload_n 0) 1 45 := by decide +kernel
theorem d_M_write_45 : dI prog_8_method_75_code 45 (.iconst 0) 1 46 ∧ Int32.ofInt 0 = 0 := by decide +kernel
theorem d_M_write_46 : dI prog_8_method_75_code 46 (.invokevirtual 61) 3 49 := by decide +kernel
theorem d_M_write_49 : decode prog_8_method_75_code 49 = .ok (.ireturn, 1) := by decide +kernel
theorem d_M_write_50 : dI prog_8_method_75_code 50 (.bipush 32) 2 52 ∧ (Int8.ofInt 32).toInt32 = 32 := by decide +kernel
theorem d_M_write_52 : dI prog_8_method_75_code 52 (.aload_n 0) 1 53 := by decide +kernel
theorem d_M_write_53 : dI prog_8_method_75_code 53 (.getfield 28) 3 56 := by decide +kernel
theorem d_M_write_56 : dI prog_8_method_75_code 56 (.iload_n 1) 1 57 := by decide +kernel
theorem d_M_write_57 : dI prog_8_method_75_code 57 .iaload 1 58 := by decide +kernel
theorem d_M_write_58 : dI prog_8_method_75_code 58 .isub 1 59 := by decide +kernel
theorem d_M_write_59 : dI prog_8_method_75_code 59 (.istore 4) 2 61 := by decide +kernel
theorem d_M_write_61 : dI prog_8_method_75_code 61 (.aload_n 0) 1 62 := by decide +kernel
theorem d_M_write_62 : dI prog_8_method_75_code 62 (.getfield 34) 3 65 := by decide +kernel
theorem d_M_write_65 : dI prog_8_method_75_code 65 (.bipush 40) 2 67 ∧ (Int8.ofInt 40).toInt32 = 40 := by decide +kernel
theorem d_M_write_67 : dI prog_8_method_75_code 67 (.iload_n 1) 1 68 := by decide +kernel
theorem d_M_write_68 : dI prog_8_method_75_code 68 .imul 1 69 := by decide +kernel
theorem d_M_write_69 : dI prog_8_method_75_code 69 (.iload_n 2) 1 70 := by decide +kernel
theorem d_M_write_70 : dI prog_8_method_75_code 70 .iadd 1 71 := by decide +kernel
theorem d_M_write_71 : dI prog_8_method_75_code 71 (.iload_n 3) 1 72 := by decide +kernel
theorem d_M_write_72 : dI prog_8_method_75_code 72 (.iload 4) 2 74 := by decide +kernel
theorem d_M_write_74 : dI prog_8_method_75_code 74 .ishl 1 75 := by decide +kernel
theorem d_M_write_75 : dI prog_8_method_75_code 75 (.iload 4) 2 77 := by decide +kernel
theorem d_M_write_77 : dI prog_8_method_75_code 77 .ishr 1 78 := by decide +kernel
theorem d_M_write_78 : dI prog_8_method_75_code 78 .iastore 1 79 := by decide +kernel
theorem d_M_write_79 : dI prog_8_method_75_code 79 (.iconst 1) 1 80 ∧ Int32.ofInt 1 = 1 := by decide +kernel
theorem d_M_write_80 : decode prog_8_method_75_code 80 = .ok (.ireturn, 1) := by decide +kernel
theorem d_M_copy_0 : dI prog_8_method_76_code 0 (.iload_n 1) 1 1 := by decide +kernel
theorem d_M_copy_1 : dI prog_8_method_76_code 1 (.invokestatic 230) 3 4 := by decide +kernel
theorem d_M_copy_4 : dJ prog_8_method_76_code 4 (.ifCond .eq 10) 10 7 14 := by decide +kernel
theorem d_M_copy_7 : dI prog_8_method_76_code 7 (.iload_n 3) 1 8 := by decide +kernel
theorem d_M_copy_8 : dI prog_8_method_76_code 8 (.invokestatic 230) 3 11 := by decide +kernel
theorem d_M_copy_11 : dJ prog_8_method_76_code 11 (.ifCond .ne 9) 9 14 20 := by decide +kernel
theorem d_M_copy_14 : dI prog_8_method_76_code 14 (.aload_n 0) 1 15 := by decide +kernel
theorem d_M_copy_15 : dI prog_8_method_76_code 15 (.iconst 0) 1 16 ∧ Int32.ofInt 0 = 0 := by decide +kernel
theorem d_M_copy_16 : dI prog_8_method_76_code 16 (.invokevirtual 61) 3 19 := by decide +kernel
theorem d_M_copy_19 : decode prog_8_method_76_code 19 = .ok (.ireturn, 1) := by decide +kernel
theorem d_M_copy_20 : dI prog_8_method_76_code 20 (.aload_n 0) 1 21 := by decide +kernel
theorem d_M_copy_21 : dI prog_8_method_76_code 21 (.getfield 28) 3 24 := by decide +kernel
theorem d_M_copy_24 : dI prog_8_method_76_code 24 (.iload_n 1) 1 25 := by decide +kernel
theorem d_M_copy_25 : dI prog_8_method_76_code 25 .iaload 1 26 := by decide +kernel
theorem d_M_copy_26 : dJ prog_8_method_76_code 26 (.ifCond .eq 12) 12 29 38 := by decide +kernel
theorem d_M_copy_29 : dI prog_8_method_76_code 29 (.aload_n 0) 1 30 := by decide +kernel
theorem d_M_copy_30 : dI prog_8_method_76_code 30 (.getfield 28) 3 33 := by decide +kernel
theorem d_M_copy_33 : dI prog_8_method_76_code 33 (.iload_n 3) 1 34 := by decide +kernel
theorem d_M_copy_34 : dI prog_8_method_76_code 34 .iaload 1 35 := by decide +kernel
theorem d_M_copy_35 : dJ prog_8_method_76_code 35 (.ifCond .ne 9) 9 38 44 := by decide +kernel
theorem d_M_copy_38 : dI prog_8_method_76_code 38 (.aload_n 0) 1 39 := by decide +kernel
theorem d_M_copy_39 : dI prog_8_method_76_code 39 (.iconst 5) 1 40 ∧ Int32.ofInt 5 = 5 := by decide +kernel
theorem d_M_copy_40 : dI prog_8_method_76_code 40 (.invokevirtual 61) 3 43 := by decide +kernel
theorem d_M_copy_43 : decode prog_8_method_76_code 43 = .ok (.ireturn, 1) := by decide +kernel
theorem d_M_copy_44 : dI prog_8_method_76_code 44 (.aload_n 0) 1 45 := by decide +kernel
theorem d_M_copy_45 : dI prog_8_method_76_code 45 (.getfield 28) 3 48 := by decide +kernel
theorem d_M_copy_48 : dI prog_8_method_76_code 48 (.iload_n 1) 1 49 := by decide +kernel
theorem d_M_copy_49 : dI prog_8_method_76_code 49 .iaload 1 50 := by decide +kernel
theorem d_M_copy_50 : dI prog_8_method_76_code 50 (.aload_n 0) 1 51 := by decide +kernel
theorem d_M_copy_51 : dI prog_8_method_76_code 51 (.getfield 28) 3 54 := by decide +kernel
theorem d_M_copy_54 : dI prog_8_method_76_code 54 (.iload_n 3) 1 55 := by decide +kernel
theorem d_M_copy_55 : dI prog_8_method_76_code 55 .iaload 1 56 := by decide +kernel
theorem d_M_copy_56 : dJ prog_8_method_76_code 56 (.if_icmp .eq 9) 9 59 65 := by decide +kernel
theorem d_M_copy_59 : dI prog_8_method_76_code 59 (.aload_n 0) 1 60 := by decide +kernel
theorem d_M_copy_60 : dI prog_8_method_76_code 60 (.iconst 2) 1 61 ∧ Int32.ofInt 2 = 2 := by decide +kernel
theorem d_M_copy_61 : dI prog_8_method_76_code 61 (.invokevirtual 61) 3 64 := by decide +kernel
theorem d_M_copy_64 : decode prog_8_method_76_code 64 = .ok (.ireturn, 1) := by decide +kernel
theorem d_M_copy_65 : dI prog_8_method_76_code 65 (.iload_n 2) 1 66 := by decide +kernel
theorem d_M_copy_66 : dJ prog_8_method_76_code 66 (.ifCond .lt 40) 40 69 106 := by decide +kernel
theorem d_M_copy_69 : dI prog_8_method_76_code 69 (.iload 4) 2 71 := by decide +kernel
theorem d_M_copy_71 : dJ prog_8_method_76_code 71 (.ifCond .lt 35) 35 74 106 := by decide +kernel
theorem d_M_copy_74 : dI prog_8_method_76_code 74 (.iload 5) 2 76 := by decide +kernel
theorem d_M_copy_76 : dJ prog_8_method_76_code 76 (.ifCond .lt 30) 30 79 106 := by decide +kernel
theorem d_M_copy_79 : dI prog_8_method_76_code 79 (.iload_n 2) 1 80 := by decide +kernel
theorem d_M_copy_80 : dI prog_8_method_76_code 80 (.aload_n 0) 1 81 := by decide +kernel
theorem d_M_copy_81 : dI prog_8_method_76_code 81 (.getfield 31) 3 84 := by decide +kernel
theorem d_M_copy_84 : dI prog_8_method_76_code 84 (.iload_n 1) 1 85 := by decide +kernel
theorem d_M_copy_85 : dI prog_8_method_76_code 85 .iaload 1 86 := by decide +kernel
theorem d_M_copy_86 : dI prog_8_method_76_code 86 (.iload 5) 2 88 := by decide +kernel
theorem d_M_copy_88 : dI prog_8_method_76_code 88 .isub 1 89 := by decide +kernel
theorem d_M_copy_89 : dJ prog_8_method_76_code 89 (.if_icmp .gt 17) 17 92 106 := by decide +kernel
theorem d_M_copy_92 : dI prog_8_method_76_code 92 (.iload 4) 2 94 := by decide +kernel
theorem d_M_copy_94 : dI prog_8_method_76_code 94 (.aload_n 0) 1 95 := by decide +kernel
theorem d_M_copy_95 : dI prog_8_method_76_code 95 (.getfield 31) 3 98 := by decide +kernel
theorem d_M_copy_98 : dI prog_8_method_76_code 98 (.iload_n 3) 1 99 := by decide +kernel
theorem d_M_copy_99 : dI prog_8_method_76_code 99 .iaload 1 100 := by decide +kernel
theorem d_M_copy_100 : dI prog_8_method_76_code 100 (.iload 5) 2 102 := by decide +kernel
theorem d_M_copy_102 : dI prog_8_method_76_code 102 .isub 1 103 := by decide +kernel
theorem d_M_copy_103 : dJ prog_8_method_76_code 103 (.if_icmp .le 9) 9 106 112 := by decide +kernel
theorem d_M_copy_106 : dI prog_8_method_76_code 106 (.aload_n 0) 1 107 := by decide +kernel
theorem d_M_copy_107 : dI prog_8_method_76_code 107 (.iconst 0) 1 108 ∧ Int32.ofInt 0 = 0 := by decide +kernel
theorem d_M_copy_108 : dI prog_8_method_76_code 108 (.invokevirtual 61) 3 111 := by decide +kernel
theorem d_M_copy_111 : decode prog_8_method_76_code 111 = .ok (.ireturn, 1) := by decide +kernel
theorem d_M_copy_112 : dI prog_8_method_76_code 112 (.iconst 0) 1 113 ∧ Int32.ofInt 0 = 0 := by decide +kernel
theorem d_M_copy_113 : dI prog_8_method_76_code 113 (.istore 6) 2 115 := by decide +kernel
theorem d_M_copy_115 : dI prog_8_method_76_code 115 (.iload 6) 2 117 := by decide +kernel
theorem d_M_copy_117 : dI prog_8_method_76_code 117 (.iload 5) 2 119 := by decide +kernel
theorem d_M_copy_119 : dJ prog_8_method_76_code 119 (.if_icmp .ge 30) 30 122 149 := by decide +kernel
theorem d_M_copy_122 : dI prog_8_method_76_code 122 (.aload_n 0) 1 123 := by decide +kernel
theorem d_M_copy_123 : dI prog_8_method_76_code 123 (.getfield 37) 3 126 := by decide +kernel
theorem d_M_copy_126 : dI prog_8_method_76_code 126 (.iload 6) 2 128 := by decide +kernel
theorem d_M_copy_128 : dI prog_8_method_76_code 128 (.aload_n 0) 1 129 := by decide +kernel
theorem d_M_copy_129 : dI prog_8_method_76_code 129 (.getfield 34) 3 132 := by decide +kernel
theorem d_M_copy_132 : dI prog_8_method_76_code 132 (.bipush 40) 2 134 ∧ (Int8.ofInt 40).toInt32 = 40 := by decide +kernel
theorem d_M_copy_134 : dI prog_8_method_76_code 134 (.iload_n 1) 1 135 := by decide +kernel
theorem d_M_copy_135 : dI prog_8_method_76_code 135 .imul 1 136 := by decide +kernel
theorem d_M_copy_136 : dI prog_8_method_76_code 136 (.iload_n 2) 1 137 := by decide +kernel
theorem d_M_copy_137 : dI prog_8_method_76_code 137 .iadd 1 138 := by decide +kernel
theorem d_M_copy_138 : dI prog_8_method_76_code 138 (.iload 6) 2 140 := by decide +kernel
theorem d_M_copy_140 : dI prog_8_method_76_code 140 .iadd 1 141 := by decide +kernel
theorem d_M_copy_141 : dI prog_8_method_76_code 141 .iaload 1 142 := by decide +kernel
theorem d_M_copy_142 : dI prog_8_method_76_code 142 .iastore 1 143 := by decide +kernel
theorem d_M_copy_143 : dI prog_8_method_76_code 143 (.iinc 6 1) 3 146 ∧ Int32.ofInt 1 = 1 := by decide +kernel
theorem d_M_copy_146 : dJ prog_8_method_76_code 146 (.goto (-31)) (-31) 149 115 := by decide +kernel
theorem d_M_copy_149 : dI prog_8_method_76_code 149 (.iconst 0) 1 150 ∧ Int32.ofInt 0 = 0 := by decide +kernel
theorem d_M_copy_150 : dI prog_8_method_76_code 150 (.istore 6) 2 152 := by decide +kernel
theorem d_M_copy_152 : dI prog_8_method_76_code 152 (.iload 6) 2 154 := by decide +kernel
theorem d_M_copy_154 : dI prog_8_method_76_code 154 (.iload 5) 2 156 := by decide +kernel
theorem d_M_copy_156 : dJ prog_8_method_76_code 156 (.if_icmp .ge 31) 31 159 187 := by decide +kernel
theorem d_M_copy_159 : dI prog_8_method_76_code 159 (.aload_n 0) 1 160 := by decide +kernel
theorem d_M_copy_160 : dI prog_8_method_76_code 160 (.getfield 34) 3 163 := by decide +kernel
theorem d_M_copy_163 : dI prog_8_method_76_code 163 (.bipush 40) 2 165 ∧ (Int8.ofInt 40).toInt32 = 40 := by decide +kernel
theorem d_M_copy_165 : dI prog_8_method_76_code 165 (.iload_n 3) 1 166 := by decide +kernel
theorem d_M_copy_166 : dI prog_8_method_76_code 166 .imul 1 167 := by decide +kernel
theorem d_M_copy_167 : dI prog_8_method_76_code 167 (.iload 4) 2 169 := by decide +kernel
theorem d_M_copy_169 : dI prog_8_method_76_code 169 .iadd 1 170 := by decide +kernel
theorem d_M_copy_170 : dI prog_8_method_76_code 170 (.iload 6) 2 172 := by decide +kernel
theorem d_M_copy_172 : dI prog_8_method_76_code 172 .iadd 1 173 := by decide +kernel
theorem d_M_copy_173 : dI prog_8_method_76_code 173 (.aload_n 0) 1 174 := by decide +kernel
theorem d_M_copy_174 : dI prog_8_method_76_code 174 (.getfield 37) 3 177 := by decide +kernel
theorem d_M_copy_177 : dI prog_8_method_76_code 177 (.iload 6) 2 179 := by decide +kernel
theorem d_M_copy_179 : dI prog_8_method_76_code 179 .iaload 1 180 := by decide +kernel
theorem d_M_copy_180 : dI prog_8_method_76_code 180 .iastore 1 181 := by decide +kernel
theorem d_M_copy_181 : dI prog_8_method_76_code 181 (.iinc 6 1) 3 184 ∧ Int32.ofInt 1 = 1 := by decide +kernel
theorem d_M_copy_184 : dJ prog_8_method_76_code 184 (.goto (-32)) (-32) 187 152 := by decide +kernel
theorem d_M_copy_187 : dI prog_8_method_76_code 187 (.iload 5) 2 189 := by decide +kernel
theorem d_M_copy_189 : decode prog_8_method_76_code 189 = .ok (.ireturn, 1) := by decide +kernel
theorem d_M_lacks_0 : dI prog_8_method_77_code 0 (.iload_n 1) 1 1 := by decide +kernel
theorem d_M_lacks_1 : dI prog_8_method_77_code 1 (.invokestatic 230) 3 4 := by decide +kernel
theorem d_M_lacks_4 : dJ prog_8_method_77_code 4 (.ifCond .ne 7) 7 7 11 := by decide +kernel
theorem d_M_lacks_7 : dI prog_8_method_77_code 7 (.iconst 0) 1 8 ∧ Int32.ofInt 0 = 0 := by decide +kernel
theorem d_M_lacks_8 : dJ prog_8_method_77_code 8 (.goto 17) 17 11 25 := by decide +kernel
theorem d_M_lacks_11 : dI prog_8_method_77_code 11 (.aload_n 0) 1 12 := by decide +kernel
theorem d_M_lacks_12 : dI prog_8_method_77_code 12 (.getfield 28) 3 15 := by decide +kernel
theorem d_M_lacks_15 : dI prog_8_method_77_code 15 (.iload_n 1) 1 16 := by decide +kernel
theorem d_M_lacks_16 : dI prog_8_method_77_code 16 .iaload 1 17 := by decide +kernel
theorem d_M_lacks_17 : dJ prog_8_method_77_code 17 (.ifCond .ne 7) 7 20 24 := by decide +kernel
theorem d_M_lacks_20 : dI prog_8_method_77_code 20 (.iconst 5) 1 21 ∧ Int32.ofInt 5 = 5 := by decide +kernel
theorem d_M_lacks_21 : dJ prog_8_method_77_code 21 (.goto 4) 4 24 25 := by decide +kernel
theorem d_M_lacks_24 : dI prog_8_method_77_code 24 (.iconst (-1)) 1 25 ∧ Int32.ofInt (-1) = (-1) := by decide +kernel
theorem d_M_lacks_25 : decode prog_8_method_77_code 25 = .ok (.ireturn, 1) := by decide +kernel
theorem d_M_load_0 : dI prog_8_method_78_code 0 (.aload_n 0) 1 1 := by decide +kernel
theorem d_M_load_1 : dI prog_8_method_78_code 1 (.iload_n 1) 1 2 := by decide +kernel
theorem d_M_load_2 : dI prog_8_method_78_code 2 (.invokevirtual 233) 3 5 := by decide +kernel
theorem d_M_load_5 : dI prog_8_method_78_code 5 (.istore_n 3) 1 6 := by decide +kernel
theorem d_M_load_6 : dI prog_8_method_78_code 6 (.iload_n 3) 1 7 := by decide +kernel
theorem d_M_load_7 : dJ prog_8_method_78_code 7 (.ifCond .lt 9) 9 10 16 := by decide +kernel
theorem d_M_load_10 : dI prog_8_method_78_code 10 (.aload_n 0) 1 11 := by decide +kernel
theorem d_M_load_11 : dI prog_8_method_78_code 11 (.iload_n 3) 1 12 := by decide +kernel
theorem d_M_load_12 : dI prog_8_method_78_code 12 (.invokevirtual 61) 3 15 := by decide +kernel
theorem d_M_load_15 : decode prog_8_method_78_code 15 = .ok (.ireturn, 1) := by decide +kernel
theorem d_M_load_16 : dI prog_8_method_78_code 16 (.iload_n 2) 1 17 := by decide +kernel
theorem d_M_load_17 : dI prog_8_method_78_code 17 (.invokestatic 49) 3 20 := by decide +kernel
theorem d_M_load_20 : dJ prog_8_method_78_code 20 (.ifCond .ne 9) 9 23 29 := by decide +kernel
theorem d_M_load_23 : dI prog_8_method_78_code 23 (.aload_n 0) 1 24 := by decide +kernel
theorem d_M_load_24 : dI prog_8_method_78_code 24 (.iconst 0) 1 25 ∧ Int32.ofInt 0 = 0 := by decide +kernel
theorem d_M_load_25 : dI prog_8_method_78_code 25 (.invokevirtual 61) 3 28 := by decide +kernel
theorem d_M_load_28 : decode prog_8_method_78_code 28 = .ok (.ireturn, 1) := by decide +kernel
theorem d_M_load_29 : dI prog_8_method_78_code 29 (.iconst 0) 1 30 ∧ Int32.ofInt 0 = 0 := by decide +kernel
theorem d_M_load_30 : dI prog_8_method_78_code 30 (.istore 4) 2 32 := by decide +kernel
theorem d_M_load_32 : dI prog_8_method_78_code 32 (.iload 4) 2 34 := by decide +kernel
theorem d_M_load_34 : dI prog_8_method_78_code 34 (.aload_n 0) 1 35 := by decide +kernel
theorem d_M_load_35 : dI prog_8_method_78_code 35 (.getfield 31) 3 38 := by decide +kernel
theorem d_M_load_38 : dI prog_8_method_78_code 38 (.iload_n 1) 1 39 := by decide +kernel
theorem d_M_load_39 : dI prog_8_method_78_code 39 .iaload 1 40 := by decide +kernel
theorem d_M_load_40 : dJ prog_8_method_78_code 40 (.if_icmp .ge 64) 64 43 104 := by decide +kernel
theorem d_M_load_43 : dI prog_8_method_78_code 43 (.iload_n 2) 1 44 := by decide +kernel
theorem d_M_load_44 : dI prog_8_method_78_code 44 (.iload 4) 2 46 := by decide +kernel
theorem d_M_load_46 : dI prog_8_method_78_code 46 .iadd 1 47 := by decide +kernel
theorem d_M_load_47 : dI prog_8_method_78_code 47 (.invokestatic 49) 3 50 := by decide +kernel
theorem d_M_load_50 : dJ prog_8_method_78_code 50 (.ifCond .eq 54) 54 53 104 := by decide +kernel
theorem d_M_load_53 : dI prog_8_method_78_code 53 (.aload_n 0) 1 54 := by decide +kernel
theorem d_M_load_54 : dI prog_8_method_78_code 54 (.getfield 34) 3 57 := by decide +kernel
theorem d_M_load_57 : dI prog_8_method_78_code 57 (.bipush 40) 2 59 ∧ (Int8.ofInt 40).toInt32 = 40 := by decide +kernel
theorem d_M_load_59 : dI prog_8_method_78_code 59 (.iload_n 1) 1 60 := by decide +kernel
theorem d_M_load_60 : dI prog_8_method_78_code 60 .imul 1 61 := by decide +kernel
theorem d_M_load_61 : dI prog_8_method_78_code 61 (.iload 4) 2 63 := by decide +kernel
theorem d_M_load_63 : dI prog_8_method_78_code 63 .iadd 1 64 := by decide +kernel
theorem d_M_load_64 : dI prog_8_method_78_code 64 .iaload 1 65 := by decide +kernel
theorem d_M_load_65 : dI prog_8_method_78_code 65 (.iconst 0) 1 66 ∧ Int32.ofInt 0 = 0 := by decide +kernel
theorem d_M_load_66 : dI prog_8_method_78_code 66 (.bipush 99) 2 68 ∧ (Int8.ofInt 99).toInt32 = 99 := by decide +kernel
theorem d_M_load_68 : dI prog_8_method_78_code 68 (.invokestatic 45) 3 71 := by decide +kernel
theorem d_M_load_71 : dJ prog_8_method_78_code 71 (.ifCond .eq 33) 33 74 104 := by decide +kernel
theorem d_M_load_74 : dI prog_8_method_78_code 74 (.aload_n 0) 1 75 := by decide +kernel
theorem d_M_load_75 : dI prog_8_method_78_code 75 (.getfield 7) 3 78 := by decide +kernel
theorem d_M_load_78 : dI prog_8_method_78_code 78 (.bipush 12) 2 80 ∧ (Int8.ofInt 12).toInt32 = 12 := by decide +kernel
theorem d_M_load_80 : dI prog_8_method_78_code 80 (.iload_n 2) 1 81 := by decide +kernel
theorem d_M_load_81 : dI prog_8_method_78_code 81 .iadd 1 82 := by decide +kernel
theorem d_M_load_82 : dI prog_8_method_78_code 82 (.iload 4) 2 84 := by decide +kernel
theorem d_M_load_84 : dI prog_8_method_78_code 84 .iadd 1 85 := by decide +kernel
theorem d_M_load_85 : dI prog_8_method_78_code 85 (.aload_n 0) 1 86 := by decide +kernel
theorem d_M_load_86 : dI prog_8_method_78_code 86 (.getfield 34) 3 89 := by decide +kernel
theorem d_M_load_89 : dI prog_8_method_78_code 89 (.bipush 40) 2 91 ∧ (Int8.ofInt 40).toInt32 = 40 := by decide +kernel
theorem d_M_load_91 : dI prog_8_method_78_code 91 (.iload_n 1) 1 92 := by decide +kernel
theorem d_M_load_92 : dI prog_8_method_78_code 92 .imul 1 93 := by decide +kernel
theorem d_M_load_93 : dI prog_8_method_78_code 93 (.iload 4) 2 95 := by decide +kernel
theorem d_M_load_95 : dI prog_8_method_78_code 95 .iadd 1 96 := by decide +kernel
theorem d_M_load_96 : dI prog_8_method_78_code 96 .iaload 1 97 := by decide +kernel
theorem d_M_load_97 : dI prog_8_method_78_code 97 .iastore 1 98 := by decide +kernel
theorem d_M_load_98 : dI prog_8_method_78_code 98 (.iinc 4 1) 3 101 ∧ Int32.ofInt 1 = 1 := by decide +kernel
theorem d_M_load_101 : dJ prog_8_method_78_code 101 (.goto (-69)) (-69) 104 32 := by decide +kernel
theorem d_M_load_104 : dI prog_8_method_78_code 104 (.iload 4) 2 106 := by decide +kernel
theorem d_M_load_106 : decode prog_8_method_78_code 106 = .ok (.ireturn, 1) := by decide +kernel
theorem d_M_judge_0 : dI prog_8_method_79_code 0 (.aload_n 0) 1 1 := by decide +kernel
theorem d_M_judge_1 : dI prog_8_method_79_code 1 (.iload_n 1) 1 2 := by decide +kernel
theorem d_M_judge_2 : dI prog_8_method_79_code 2 (.invokevirtual 233) 3 5 := by decide +kernel
theorem d_M_judge_5 : dI prog_8_method_79_code 5 (.istore_n 2) 1 6 := by decide +kernel
theorem d_M_judge_6 : dI prog_8_method_79_code 6 (.iload_n 2) 1 7 := by decide +kernel
theorem d_M_judge_7 : dJ prog_8_method_79_code 7 (.ifCond .lt 9) 9 10 16 := by decide +kernel
theorem d_M_judge_10 : dI prog_8_method_79_code 10 (.aload_n 0) 1 11 := by decide +kernel
theorem d_M_judge_11 : dI prog_8_method_79_code 11 (.iload_n 2) 1 12 := by decide +kernel
theorem d_M_judge_12 : dI prog_8_method_79_code 12 (.invokevirtual 61) 3 15 := by decide +kernel
theorem d_M_judge_15 : decode prog_8_method_79_code 15 = .ok (.ireturn, 1) := by decide +kernel
theorem d_M_judge_16 : dI prog_8_method_79_code 16 (.aload_n 0) 1 17 := by decide +kernel
theorem d_M_judge_17 : dI prog_8_method_79_code 17 (.invokevirtual 124) 3 20 := by decide +kernel
theorem d_M_judge_20 : dI prog_8_method_79_code 20 (.iconst 0) 1 21 ∧ Int32.ofInt 0 = 0 := by decide +kernel
theorem d_M_judge_21 : dI prog_8_method_79_code 21 (.istore_n 3) 1 22 := by decide +kernel
theorem d_M_judge_22 : dI prog_8_method_79_code 22 (.iconst 1) 1 23 ∧ Int32.ofInt 1 = 1 := by decide +kernel
theorem d_M_judge_23 : dI prog_8_method_79_code 23 (.istore 4) 2 25 := by decide +kernel
theorem d_M_judge_25 : dI prog_8_method_79_code 25 (.iload_n 3) 1 26 := by decide +kernel
theorem d_M_judge_26 : dI prog_8_method_79_code 26 (.aload_n 0) 1 27 := by decide +kernel
theorem d_M_judge_27 : dI prog_8_method_79_code 27 (.getfield 31) 3 30 := by decide +kernel
theorem d_M_judge_30 : dI prog_8_method_79_code 30 (.iload_n 1) 1 31 := by decide +kernel
theorem d_M_judge_31 : dI prog_8_method_79_code 31 .iaload 1 32 := by decide +kernel
theorem d_M_judge_32 : dJ prog_8_method_79_code 32 (.if_icmp .ge 103) 103 35 135 := by decide +kernel
theorem d_M_judge_35 : dI prog_8_method_79_code 35 (.iload 4) 2 37 := by decide +kernel
theorem d_M_judge_37 : dJ prog_8_method_79_code 37 (.ifCond .eq 98) 98 40 135 := by decide +kernel
theorem d_M_judge_40 : dI prog_8_method_79_code 40 (.iload_n 3) 1 41 := by decide +kernel
theorem d_M_judge_41 : dI prog_8_method_79_code 41 (.aload_n 0) 1 42 := by decide +kernel
theorem d_M_judge_42 : dI prog_8_method_79_code 42 (.getfield 7) 3 45 := by decide +kernel
theorem d_M_judge_45 : dI prog_8_method_79_code 45 (.bipush 11) 2 47 ∧ (Int8.ofInt 11).toInt32 = 11 := by decide +kernel
theorem d_M_judge_47 : dI prog_8_method_79_code 47 .iaload 1 48 := by decide +kernel
theorem d_M_judge_48 : dJ prog_8_method_79_code 48 (.if_icmp .ge 23) 23 51 71 := by decide +kernel
theorem d_M_judge_51 : dI prog_8_method_79_code 51 (.aload_n 0) 1 52 := by decide +kernel
theorem d_M_judge_52 : dI prog_8_method_79_code 52 (.aload_n 0) 1 53 := by decide +kernel
theorem d_M_judge_53 : dI prog_8_method_79_code 53 (.getfield 7) 3 56 := by decide +kernel
theorem d_M_judge_56 : dI prog_8_method_79_code 56 (.bipush 72) 2 58 ∧ (Int8.ofInt 72).toInt32 = 72 := by decide +kernel
theorem d_M_judge_58 : dI prog_8_method_79_code 58 (.iload_n 3) 1 59 := by decide +kernel
theorem d_M_judge_59 : dI prog_8_method_79_code 59 .iadd 1 60 := by decide +kernel
theorem d_M_judge_60 : dI prog_8_method_79_code 60 .iaload 1 61 := by decide +kernel
theorem d_M_judge_61 : dI prog_8_method_79_code 61 (.invokevirtual 114) 3 64 := by decide +kernel
theorem d_M_judge_64 : dJ prog_8_method_79_code 64 (.ifCond .eq 7) 7 67 71 := by decide +kernel
theorem d_M_judge_67 : dI prog_8_method_79_code 67 (.iconst 1) 1 68 ∧ Int32.ofInt 1 = 1 := by decide +kernel
theorem d_M_judge_68 : dJ prog_8_method_79_code 68 (.goto 4) 4 71 72 := by decide +kernel
theorem d_M_judge_71 : dI prog_8_method_79_code 71 (.iconst 0) 1 72 ∧ Int32.ofInt 0 = 0 := by decide +kernel
theorem d_M_judge_72 : dI prog_8_method_79_code 72 (.istore 4) 2 74 := by decide +kernel
theorem d_M_judge_74 : dI prog_8_method_79_code 74 (.iload 4) 2 76 := by decide +kernel
theorem d_M_judge_76 : dJ prog_8_method_79_code 76 (.ifCond .eq 43) 43 79 119 := by decide +kernel
theorem d_M_judge_79 : dI prog_8_method_79_code 79 (.aload_n 0) 1 80 := by decide +kernel
theorem d_M_judge_80 : dI prog_8_method_79_code 80 (.aload_n 0) 1 81 := by decide +kernel
theorem d_M_judge_81 : dI prog_8_method_79_code 81 (.getfield 7) 3 84 := by decide +kernel
theorem d_M_judge_84 : dI prog_8_method_79_code 84 (.bipush 72) 2 86 ∧ (Int8.ofInt 72).toInt32 = 72 := by decide +kernel
theorem d_M_judge_86 : dI prog_8_method_79_code 86 (.iload_n 3) 1 87 := by decide +kernel
theorem d_M_judge_87 : dI prog_8_method_79_code 87 .iadd 1 88 := by decide +kernel
theorem d_M_judge_88 : dI prog_8_method_79_code 88 .iaload 1 89 := by decide +kernel
theorem d_M_judge_89 : dI prog_8_method_79_code 89 (.invokevirtual 117) 3 92 := by decide +kernel
theorem d_M_judge_92 : dI prog_8_method_79_code 92 (.aload_n 0) 1 93 := by decide +kernel
theorem d_M_judge_93 : dI prog_8_method_79_code 93 (.getfield 7) 3 96 := by decide +kernel
theorem d_M_judge_96 : dI prog_8_method_79_code 96 (.iconst 0) 1 97 ∧ Int32.ofInt 0 = 0 := by decide +kernel
theorem d_M_judge_97 : dI prog_8_method_79_code 97 .iaload 1 98 := by decide +kernel
theorem d_M_judge_98 : dI prog_8_method_79_code 98 (.aload_n 0) 1 99 := by decide +kernel
theorem d_M_judge_99 : dI prog_8_method_79_code 99 (.getfield 34) 3 102 := by decide +kernel
theorem d_M_judge_102 : dI prog_8_method_79_code 102 (.bipush 40) 2 104 ∧ (Int8.ofInt 40).toInt32 = 40 := by decide +kernel
theorem d_M_judge_104 : dI prog_8_method_79_code 104 (.iload_n 1) 1 105 := by decide +kernel
theorem d_M_judge_105 : dI prog_8_method_79_code 105 .imul 1 106 := by decide +kernel
theorem d_M_judge_106 : dI prog_8_method_79_code 106 (.iload_n 3) 1 107 := by decide +kernel
theorem d_M_judge_107 : dI prog_8_method_79_code 107 .iadd 1 108 := by decide +kernel
theorem d_M_judge_108 : dI prog_8_method_79_code 108 .iaload 1 109 := by decide +kernel
theorem d_M_judge_109 : dJ prog_8_method_79_code 109 (.if_icmp .ne 7) 7 112 116 := by decide +kernel
theorem d_M_judge_112 : dI prog_8_method_79_code 112 (.iconst 1) 1 113 ∧ Int32.ofInt 1 = 1 := by decide +kernel
theorem d_M_judge_113 : dJ prog_8_method_79_code 113 (.goto 4) 4 116 117 := by decide +kernel
theorem d_M_judge_116 : dI prog_8_method_79_code 116 (.iconst 0) 1 117 ∧ Int32.ofInt 0 = 0 := by decide +kernel
theorem d_M_judge_117 : dI prog_8_method_79_code 117 (.istore 4) 2 119 := by decide +kernel
theorem d_M_judge_119 : dI prog_8_method_79_code 119 (.iload_n 3) 1 120 := by decide +kernel
theorem d_M_judge_120 : dI prog_8_method_79_code 120 (.iload 4) 2 122 := by decide +kernel
theorem d_M_judge_122 : dJ prog_8_method_79_code 122 (.ifCond .eq 7) 7 125 129 := by decide +kernel
theorem d_M_judge_125 : dI prog_8_method_79_code 125 (.iconst 1) 1 126 ∧ Int32.ofInt 1 = 1 := by decide +kernel
theorem d_M_judge_126 : dJ prog_8_method_79_code 126 (.goto 4) 4 129 130 := by decide +kernel
theorem d_M_judge_129 : dI prog_8_method_79_code 129 (.iconst 0) 1 130 ∧ Int32.ofInt 0 = 0 := by decide +kernel
theorem d_M_judge_130 : dI prog_8_method_79_code 130 .iadd 1 131 := by decide +kernel
theorem d_M_judge_131 : dI prog_8_method_79_code 131 (.istore_n 3) 1 132 := by decide +kernel
theorem d_M_judge_132 : dJ prog_8_method_79_code 132 (.goto (-107)) (-107) 135 25 := by decide +kernel
theorem d_M_judge_135 : dI prog_8_method_79_code 135 (.aload_n 0) 1 136 := by decide +kernel
theorem d_M_judge_136 : dI prog_8_method_79_code 136 (.invokevirtual 121) 3 139 := by decide +kernel
theorem d_M_judge_139 : dI prog_8_method_79_code 139 (.iload 4) 2 141 := by decide +kernel
theorem d_M_judge_141 : dJ prog_8_method_79_code 141 (.ifCond .eq 7) 7 144 148 := by decide +kernel
theorem d_M_judge_144 : dI prog_8_method_79_code 144 (.iconst 0) 1 145 ∧ Int32.ofInt 0 = 0 := by decide +kernel
theorem d_M_judge_145 : dJ prog_8_method_79_code 145 (.goto 6) 6 148 151 := by decide +kernel
theorem d_M_judge_148 : dI prog_8_method_79_code 148 (.iconst 1) 1 149 ∧ Int32.ofInt 1 = 1 := by decide +kernel
theorem d_M_judge_149 : dI prog_8_method_79_code 149 (.iload_n 3) 1 150 := by decide +kernel
theorem d_M_judge_150 : dI prog_8_method_79_code 150 .iadd 1 151 := by decide +kernel
theorem d_M_judge_151 : decode prog_8_method_79_code 151 = .ok (.ireturn, 1) := by decide +kernel
theorem d_M_image_0 : dI prog_8_method_80_code 0 (.aload_n 0) 1 1 := by decide +kernel
theorem d_M_image_1 : dI prog_8_method_80_code 1 (.getfield 7) 3 4 := by decide +kernel
theorem d_M_image_4 : dI prog_8_method_80_code 4 (.aload_n 0) 1 5 := by decide +kernel
theorem d_M_image_5 : dI prog_8_method_80_code 5 (.getfield 13) 3 8 := by decide +kernel
theorem d_M_image_8 : dI prog_8_method_80_code 8 (.invokestatic 41) 3 11 := by decide +kernel
theorem d_M_image_11 : dI prog_8_method_80_code 11 (.aload_n 0) 1 12 := by decide +kernel
theorem d_M_image_12 : dI prog_8_method_80_code 12 (.iconst 1) 1 13 ∧ Int32.ofInt 1 = 1 := by decide +kernel
theorem d_M_image_13 : dI prog_8_method_80_code 13 (.putfield 236) 3 16 := by decide +kernel
theorem d_M_image_16 : dI prog_8_method_80_code 16 (.iconst 1) 1 17 ∧ Int32.ofInt 1 = 1 := by decide +kernel
theorem d_M_image_17 : decode prog_8_method_80_code 17 = .ok (.ireturn, 1) := by decide +kernel
theorem d_M_undo_0 : dI prog_8_method_81_code 0 (.aload_n 0) 1 1 := by decide +kernel
theorem d_M_undo_1 : dI prog_8_method_81_code 1 (.getfield 236) 3 4 := by decide +kernel
theorem d_M_undo_4 : dJ prog_8_method_81_code 4 (.ifCond .ne 9) 9 7 13 := by decide +kernel
theorem d_M_undo_7 : dI prog_8_method_81_code 7 (.aload_n 0) 1 8 := by decide +kernel
theorem d_M_undo_8 : dI prog_8_method_81_code 8 (.iconst 3) 1 9 ∧ Int32.ofInt 3 = 3 := by decide +kernel
theorem d_M_undo_9 : dI prog_8_method_81_code 9 (.invokevirtual 61) 3 12 := by decide +kernel
theorem d_M_undo_12 : decode prog_8_method_81_code 12 = .ok (.ireturn, 1) := by decide +kernel
theorem d_M_undo_13 : dI prog_8_method_81_code 13 (.aload_n 0) 1 14 := by decide +kernel
theorem d_M_undo_14 : dI prog_8_method_81_code 14 (.getfield 13) 3 17 := by decide +kernel
theorem d_M_undo_17 : dI prog_8_method_81_code 17 (.aload_n 0) 1 18 := by decide +kernel
theorem d_M_undo_18 : dI prog_8_method_81_code 18 (.getfield 7) 3 21 := by decide +kernel
theorem d_M_undo_21 : dI prog_8_method_81_code 21 (.invokestatic 41) 3 24 := by decide +kernel
theorem d_M_undo_24 : dI prog_8_method_81_code 24 (.aload_n 0) 1 25 := by decide +kernel
theorem d_M_undo_25 : dI prog_8_method_81_code 25 (.getfield 7) 3 28 := by decide +kernel
theorem d_M_undo_28 : dI prog_8_method_81_code 28 (.bipush 7) 2 30 ∧ (Int8.ofInt 7).toInt32 = 7 := by decide +kernel
theorem d_M_undo_30 : dI prog_8_method_81_code 30 .iaload 1 31 := by decide +kernel
theorem d_M_undo_31 : decode prog_8_method_81_code 31 = .ok (.ireturn, 1) := by decide +kernel
theorem d_M_tear_0 : dI prog_8_method_82_code 0 (.aload_n 0) 1 1 := by decide +kernel
theorem d_M_tear_1 : dI prog_8_method_82_code 1 (.getfield 236) 3 4 := by decide +kernel
theorem d_M_tear_4 : dJ prog_8_method_82_code 4 (.ifCond .eq 7) 7 7 11 := by decide +kernel
theorem d_M_tear_7 : dI prog_8_method_82_code 7 (.iconst 1) 1 8 ∧ Int32.ofInt 1 = 1 := by decide +kernel
theorem d_M_tear_8 : dJ prog_8_method_82_code 8 (.goto 4) 4 11 12 := by decide +kernel
theorem d_M_tear_11 : dI prog_8_method_82_code 11 (.iconst 0) 1 12 ∧ Int32.ofInt 0 = 0 := by decide +kernel
theorem d_M_tear_12 : dI prog_8_method_82_code 12 (.istore_n 1) 1 13 := by decide +kernel
theorem d_M_tear_13 : dI prog_8_method_82_code 13 (.aload_n 0) 1 14 := by decide +kernel
theorem d_M_tear_14 : dI prog_8_method_82_code 14 (.iconst 0) 1 15 ∧ Int32.ofInt 0 = 0 := by decide +kernel
theorem d_M_tear_15 : dI prog_8_method_82_code 15 (.putfield 236) 3 18 := by decide +kernel
theorem d_M_tear_18 : dI prog_8_method_82_code 18 (.iload_n 1) 1 19 := by decide +kernel
theorem d_M_tear_19 : decode prog_8_method_82_code 19 = .ok (.ireturn, 1) := by decide +kernel
theorem d_M_told_0 : dI prog_8_method_83_code 0 (.iconst 0) 1 1 ∧ Int32.ofInt 0 = 0 := by decide +kernel
theorem d_M_told_1 : dI prog_8_method_83_code 1 (.istore_n 3) 1 2 := by decide +kernel
theorem d_M_told_2 : dI prog_8_method_83_code 2 (.iconst 0) 1 3 ∧ Int32.ofInt 0 = 0 := by decide +kernel
theorem d_M_told_3 : dI prog_8_method_83_code 3 (.istore 4) 2 5 := by decide +kernel
theorem d_M_told_5 : dI prog_8_method_83_code 5 (.iload 4) 2 7 := by decide +kernel
theorem d_M_told_7 : dI prog_8_method_83_code 7 (.iload_n 2) 1 8 := by decide +kernel
theorem d_M_told_8 : dJ prog_8_method_83_code 8 (.if_icmp .ge 30) 30 11 38 := by decide +kernel
theorem d_M_told_11 : dI prog_8_method_83_code 11 (.iload_n 3) 1 12 := by decide +kernel
theorem d_M_told_12 : dI prog_8_method_83_code 12 (.aload_n 0) 1 13 := by decide +kernel
theorem d_M_told_13 : dI prog_8_method_83_code 13 (.getfield 7) 3 16 := by decide +kernel
theorem d_M_told_16 : dI prog_8_method_83_code 16 (.iload_n 1) 1 17 := by decide +kernel
theorem d_M_told_17 : dI prog_8_method_83_code 17 (.iload 4) 2 19 := by decide +kernel
theorem d_M_told_19 : dI prog_8_method_83_code 19 .iadd 1 20 := by decide +kernel
theorem d_M_told_20 : dI prog_8_method_83_code 20 .iaload 1 21 := by decide +kernel
theorem d_M_told_21 : dI prog_8_method_83_code 21 (.iconst (-1)) 1 22 ∧ Int32.ofInt (-1) = (-1) := by decide +kernel
theorem d_M_told_22 : dJ prog_8_method_83_code 22 (.if_icmp .ne 7) 7 25 29 := by decide +kernel
theorem d_M_told_25 : dI prog_8_method_83_code 25 (.iconst 0) 1 26 ∧ Int32.ofInt 0 = 0 := by decide +kernel
theorem d_M_told_26 : dJ prog_8_method_83_code 26 (.goto 4) 4 29 30 := by decide +kernel
theorem d_M_told_29 : dI prog_8_method_83_code 29 (.iconst 1) 1 30 ∧ Int32.ofInt 1 = 1 := by decide +kernel
theorem d_M_told_30 : dI prog_8_method_83_code 30 .iadd 1 31 := by decide +kernel
theorem d_M_told_31 : dI prog_8_method_83_code 31 (.istore_n 3) 1 32 := by decide +kernel
theorem d_M_told_32 : dI prog_8_method_83_code 32 (.iinc 4 1) 3 35 ∧ Int32.ofInt 1 = 1 := by decide +kernel
theorem d_M_told_35 : dJ prog_8_method_83_code 35 (.goto (-30)) (-30) 38 5 := by decide +kernel
theorem d_M_told_38 : dI prog_8_method_83_code 38 (.iload_n 3) 1 39 := by decide +kernel
theorem d_M_told_39 : decode prog_8_method_83_code 39 = .ok (.ireturn, 1) := by decide +kernel
theorem d_M_count_0 : dI prog_8_method_84_code 0 (.iload_n 1) 1 1 := by decide +kernel
theorem d_M_count_1 : decode prog_8_method_84_code 1 = .ok (.tableswitch 83 0 5 #[39, 47, 56, 65, 70, 78], 39) := by decide +kernel
theorem d_M_count_40 : dI prog_8_method_84_code 40 (.aload_n 0) 1 41 := by decide +kernel
theorem d_M_count_41 : dI prog_8_method_84_code 41 (.getfield 7) 3 44 := by decide +kernel
theorem d_M_count_44 : dI prog_8_method_84_code 44 (.bipush 11) 2 46 ∧ (Int8.ofInt 11).toInt32 = 11 := by decide +kernel
theorem d_M_count_46 : dI prog_8_method_84_code 46 .iaload 1 47 := by decide +kernel
theorem d_M_count_47 : decode prog_8_method_84_code 47 = .ok (.ireturn, 1) := by decide +kernel
theorem d_M_count_48 : dI prog_8_method_84_code 48 (.aload_n 0) 1 49 := by decide +kernel
theorem d_M_count_49 : dI prog_8_method_84_code 49 (.bipush 52) 2 51 ∧ (Int8.ofInt 52).toInt32 = 52 := by decide +kernel
theorem d_M_count_51 : dI prog_8_method_84_code 51 (.bipush 10) 2 53 ∧ (Int8.ofInt 10).toInt32 = 10 := by decide +kernel
theorem d_M_count_53 : dI prog_8_method_84_code 53 (.invokevirtual 240) 3 56 := by decide +kernel
theorem d_M_count_56 : decode prog_8_method_84_code 56 = .ok (.ireturn, 1) := by decide +kernel
theorem d_M_count_57 : dI prog_8_method_84_code 57 (.aload_n 0) 1 58 := by decide +kernel
theorem d_M_count_58 : dI prog_8_method_84_code 58 (.bipush 62) 2 60 ∧ (Int8.ofInt 62).toInt32 = 62 := by decide +kernel
theorem d_M_count_60 : dI prog_8_method_84_code 60 (.bipush 10) 2 62 ∧ (Int8.ofInt 10).toInt32 = 10 := by decide +kernel
theorem d_M_count_62 : dI prog_8_method_84_code 62 (.invokevirtual 240) 3 65 := by decide +kernel
theorem d_M_count_65 : decode prog_8_method_84_code 65 = .ok (.ireturn, 1) := by decide +kernel
theorem d_M_count_66 : dI prog_8_method_84_code 66 (.aload_n 0) 1 67 := by decide +kernel
theorem d_M_count_67 : dI prog_8_method_84_code 67 (.getfield 136) 3 70 := by decide +kernel
theorem d_M_count_70 : decode prog_8_method_84_code 70 = .ok (.ireturn, 1) := by decide +kernel
theorem d_M_count_71 : dI prog_8_method_84_code 71 (.aload_n 0) 1 72 := by decide +kernel
theorem d_M_count_72 : dI prog_8_method_84_code 72 (.getfield 7) 3 75 := by decide +kernel
theorem d_M_count_75 : dI prog_8_method_84_code 75 (.bipush 10) 2 77 ∧ (Int8.ofInt 10).toInt32 = 10 := by decide +kernel
theorem d_M_count_77 : dI prog_8_method_84_code 77 .iaload 1 78 := by decide +kernel
theorem d_M_count_78 : decode prog_8_method_84_code 78 = .ok (.ireturn, 1) := by decide +kernel
theorem d_M_count_79 : dI prog_8_method_84_code 79 (.aload_n 0) 1 80 := by decide +kernel
theorem d_M_count_80 : dI prog_8_method_84_code 80 (.invokevirtual 89) 3 83 := by decide +kernel
theorem d_M_count_83 : decode prog_8_method_84_code 83 = .ok (.ireturn, 1) := by decide +kernel
theorem d_M_count_84 : dI prog_8_method_84_code 84 (.aload_n 0) 1 85 := by decide +kernel
theorem d_M_count_85 : dI prog_8_method_84_code 85 (.iconst 0) 1 86 ∧ Int32.ofInt 0 = 0 := by decide +kernel
theorem d_M_count_86 : dI prog_8_method_84_code 86 (.invokevirtual 61) 3 89 := by decide +kernel
theorem d_M_count_89 : decode prog_8_method_84_code 89 = .ok (.ireturn, 1) := by decide +kernel
theorem d_M_status_0 : dI prog_8_method_85_code 0 (.iload_n 1) 1 1 := by decide +kernel
theorem d_M_status_1 : dI prog_8_method_85_code 1 (.iconst (-1)) 1 2 ∧ Int32.ofInt (-1) = (-1) := by decide +kernel
theorem d_M_status_2 : dI prog_8_method_85_code 2 (.bipush 6) 2 4 ∧ (Int8.ofInt 6).toInt32 = 6 := by decide +kernel
theorem d_M_status_4 : dI prog_8_method_85_code 4 (.invokestatic 45) 3 7 := by decide +kernel
theorem d_M_status_7 : dJ prog_8_method_85_code 7 (.ifCond .ne 9) 9 10 16 := by decide +kernel
theorem d_M_status_10 : dI prog_8_method_85_code 10 (.aload_n 0) 1 11 := by decide +kernel
theorem d_M_status_11 : dI prog_8_method_85_code 11 (.iconst 0) 1 12 ∧ Int32.ofInt 0 = 0 := by decide +kernel
theorem d_M_status_12 : dI prog_8_method_85_code 12 (.invokevirtual 61) 3 15 := by decide +kernel
theorem d_M_status_15 : decode prog_8_method_85_code 15 = .ok (.ireturn, 1) := by decide +kernel
theorem d_M_status_16 : dI prog_8_method_85_code 16 (.iconst 0) 1 17 ∧ Int32.ofInt 0 = 0 := by decide +kernel
theorem d_M_status_17 : dI prog_8_method_85_code 17 (.istore_n 2) 1 18 := by decide +kernel
theorem d_M_status_18 : dI prog_8_method_85_code 18 (.iconst 0) 1 19 ∧ Int32.ofInt 0 = 0 := by decide +kernel
theorem d_M_status_19 : dI prog_8_method_85_code 19 (.istore_n 3) 1 20 := by decide +kernel
theorem d_M_status_20 : dI prog_8_method_85_code 20 (.iload_n 3) 1 21 := by decide +kernel
theorem d_M_status_21 : dI prog_8_method_85_code 21 (.bipush 7) 2 23 ∧ (Int8.ofInt 7).toInt32 = 7 := by decide +kernel
theorem d_M_status_23 : dJ prog_8_method_85_code 23 (.if_icmp .ge 32) 32 26 55 := by decide +kernel
theorem d_M_status_26 : dI prog_8_method_85_code 26 (.iload_n 2) 1 27 := by decide +kernel
theorem d_M_status_27 : dI prog_8_method_85_code 27 (.iload_n 1) 1 28 := by decide +kernel
theorem d_M_status_28 : dI prog_8_method_85_code 28 (.iconst (-1)) 1 29 ∧ Int32.ofInt (-1) = (-1) := by decide +kernel
theorem d_M_status_29 : dJ prog_8_method_85_code 29 (.if_icmp .eq 8) 8 32 37 := by decide +kernel
theorem d_M_status_32 : dI prog_8_method_85_code 32 (.iload_n 1) 1 33 := by decide +kernel
theorem d_M_status_33 : dI prog_8_method_85_code 33 (.iload_n 3) 1 34 := by decide +kernel
theorem d_M_status_34 : dJ prog_8_method_85_code 34 (.if_icmp .ne 12) 12 37 46 := by decide +kernel
theorem d_M_status_37 : dI prog_8_method_85_code 37 (.aload_n 0) 1 38 := by decide +kernel
theorem d_M_status_38 : dI prog_8_method_85_code 38 (.getfield 19) 3 41 := by decide +kernel
theorem d_M_status_41 : dI prog_8_method_85_code 41 (.iload_n 3) 1 42 := by decide +kernel
theorem d_M_status_42 : dI prog_8_method_85_code 42 .iaload 1 43 := by decide +kernel
theorem d_M_status_43 : dJ prog_8_method_85_code 43 (.goto 4) 4 46 47 := by decide +kernel
theorem d_M_status_46 : dI prog_8_method_85_code 46 (.iconst 0) 1 47 ∧ Int32.ofInt 0 = 0 := by decide +kernel
theorem d_M_status_47 : dI prog_8_method_85_code 47 .iadd 1 48 := by decide +kernel
theorem d_M_status_48 : dI prog_8_method_85_code 48 (.istore_n 2) 1 49 := by decide +kernel
theorem d_M_status_49 : dI prog_8_method_85_code 49 (.iinc 3 1) 3 52 ∧ Int32.ofInt 1 = 1 := by decide +kernel
theorem d_M_status_52 : dJ prog_8_method_85_code 52 (.goto (-32)) (-32) 55 20 := by decide +kernel
theorem d_M_status_55 : dI prog_8_method_85_code 55 (.iload_n 2) 1 56 := by decide +kernel
theorem d_M_status_56 : decode prog_8_method_85_code 56 = .ok (.ireturn, 1) := by decide +kernel
end
section
theorem ml_law_9 : Cond.methodLink "SandLorryLaw" 9 k_S_init.1 ∈ TG := TG_at 17 (by decide +kernel) (by decide +kernel)
theorem ml_S_1 : Cond.methodLink "SandLorry" 1 Lib.objectInit ∈ TG := TG_at 20 (by decide +kernel) (by decide +kernel)
theorem ml_S_9 : Cond.methodLink "SandLorry" 9 k_C_init.1 ∈ TG := TG_at 25 (by decide +kernel) (by decide +kernel)
theorem ml_C_3 : Cond.methodLink "SandLorry$Scene" 3 Lib.objectInit ∈ TG := TG_at 28 (by decide +kernel) (by decide +kernel)
theorem ml_C_11 : Cond.methodLink "SandLorry$Scene" 11 k_L_init.1 ∈ TG := TG_at 31 (by decide +kernel) (by decide +kernel)
theorem ml_L_3 : Cond.methodLink "SandLorry$Lorry" 3 Lib.objectInit ∈ TG := TG_at 34 (by decide +kernel) (by decide +kernel)
theorem fl_C_20 : FLk "SandLorry$Scene" 20 0 0 := ⟨_, rfl, by decide, rfl, TG_at 35 (by decide +kernel) (by decide +kernel)⟩
theorem fl_L_15 : FLk "SandLorry$Lorry" 15 0 0 := ⟨_, rfl, by decide, rfl, TG_at 36 (by decide +kernel) (by decide +kernel)⟩
theorem fl_L_9 : FLk "SandLorry$Lorry" 9 0 1 := ⟨_, rfl, by decide, rfl, TG_at 37 (by decide +kernel) (by decide +kernel)⟩
theorem fl_S_71 : FLk "SandLorry" 71 0 1 := ⟨_, rfl, by decide, rfl, TG_at 38 (by decide +kernel) (by decide +kernel)⟩
theorem fl_P_79 : FLk "SandLorry$Tape" 79 0 1 := ⟨_, rfl, by decide, rfl, TG_at 39 (by decide +kernel) (by decide +kernel)⟩
theorem ml_C_38 : Cond.methodLink "SandLorry$Scene" 38 k_JA_fill.1 ∈ TG := TG_at 46 (by decide +kernel) (by decide +kernel)
theorem fl_C_14 : FLk "SandLorry$Scene" 14 1 0 := ⟨_, rfl, by decide, rfl, TG_at 49 (by decide +kernel) (by decide +kernel)⟩
theorem fl_S_22 : FLk "SandLorry" 22 1 0 := ⟨_, rfl, by decide, rfl, TG_at 50 (by decide +kernel) (by decide +kernel)⟩
theorem fl_P_75 : FLk "SandLorry$Tape" 75 1 0 := ⟨_, rfl, by decide, rfl, TG_at 51 (by decide +kernel) (by decide +kernel)⟩
theorem fl_C_24 : FLk "SandLorry$Scene" 24 1 1 := ⟨_, rfl, by decide, rfl, TG_at 52 (by decide +kernel) (by decide +kernel)⟩
theorem fl_S_29 : FLk "SandLorry" 29 1 1 := ⟨_, rfl, by decide, rfl, TG_at 53 (by decide +kernel) (by decide +kernel)⟩
theorem fl_P_65 : FLk "SandLorry$Tape" 65 1 1 := ⟨_, rfl, by decide, rfl, TG_at 54 (by decide +kernel) (by decide +kernel)⟩
theorem fl_C_25 : FLk "SandLorry$Scene" 25 1 2 := ⟨_, rfl, by decide, rfl, TG_at 55 (by decide +kernel) (by decide +kernel)⟩
theorem fl_S_107 : FLk "SandLorry" 107 1 2 := ⟨_, rfl, by decide, rfl, TG_at 56 (by decide +kernel) (by decide +kernel)⟩
theorem fl_C_28 : FLk "SandLorry$Scene" 28 1 3 := ⟨_, rfl, by decide, rfl, TG_at 57 (by decide +kernel) (by decide +kernel)⟩
theorem fl_S_190 : FLk "SandLorry" 190 1 3 := ⟨_, rfl, by decide, rfl, TG_at 58 (by decide +kernel) (by decide +kernel)⟩
theorem fl_C_31 : FLk "SandLorry$Scene" 31 1 4 := ⟨_, rfl, by decide, rfl, TG_at 59 (by decide +kernel) (by decide +kernel)⟩
theorem fl_S_154 : FLk "SandLorry" 154 1 4 := ⟨_, rfl, by decide, rfl, TG_at 60 (by decide +kernel) (by decide +kernel)⟩
theorem fl_C_54 : FLk "SandLorry$Scene" 54 1 5 := ⟨_, rfl, by decide, rfl, TG_at 61 (by decide +kernel) (by decide +kernel)⟩
theorem fl_S_151 : FLk "SandLorry" 151 1 5 := ⟨_, rfl, by decide, rfl, TG_at 62 (by decide +kernel) (by decide +kernel)⟩
theorem fl_C_34 : FLk "SandLorry$Scene" 34 1 6 := ⟨_, rfl, by decide, rfl, TG_at 63 (by decide +kernel) (by decide +kernel)⟩
theorem fl_S_184 : FLk "SandLorry" 184 1 6 := ⟨_, rfl, by decide, rfl, TG_at 64 (by decide +kernel) (by decide +kernel)⟩
theorem ml_S_33 : Cond.methodLink "SandLorry" 33 k_L_init.1 ∈ TG := TG_at 81 (by decide +kernel) (by decide +kernel)
theorem ml_S_41 : Cond.methodLink "SandLorry" 41 k_H_init.1 ∈ TG := TG_at 84 (by decide +kernel) (by decide +kernel)
theorem ml_H_3 : Cond.methodLink "SandLorry$Search" 3 Lib.objectInit ∈ TG := TG_at 87 (by decide +kernel) (by decide +kernel)
theorem ml_H_17 : Cond.methodLink "SandLorry$Search" 17 k_L_init.1 ∈ TG := TG_at 90 (by decide +kernel) (by decide +kernel)
theorem fl_H_11 : FLk "SandLorry$Search" 11 2 0 := ⟨_, rfl, by decide, rfl, TG_at 91 (by decide +kernel) (by decide +kernel)⟩
theorem fl_H_24 : FLk "SandLorry$Search" 24 2 1 := ⟨_, rfl, by decide, rfl, TG_at 92 (by decide +kernel) (by decide +kernel)⟩
theorem fl_S_168 : FLk "SandLorry" 168 2 1 := ⟨_, rfl, by decide, rfl, TG_at 93 (by decide +kernel) (by decide +kernel)⟩
theorem fl_H_44 : FLk "SandLorry$Search" 44 2 2 := ⟨_, rfl, by decide, rfl, TG_at 94 (by decide +kernel) (by decide +kernel)⟩
theorem fl_S_172 : FLk "SandLorry" 172 2 2 := ⟨_, rfl, by decide, rfl, TG_at 95 (by decide +kernel) (by decide +kernel)⟩
theorem fl_H_48 : FLk "SandLorry$Search" 48 2 3 := ⟨_, rfl, by decide, rfl, TG_at 96 (by decide +kernel) (by decide +kernel)⟩
theorem fl_S_175 : FLk "SandLorry" 175 2 3 := ⟨_, rfl, by decide, rfl, TG_at 97 (by decide +kernel) (by decide +kernel)⟩
theorem fl_H_51 : FLk "SandLorry$Search" 51 2 4 := ⟨_, rfl, by decide, rfl, TG_at 98 (by decide +kernel) (by decide +kernel)⟩
theorem fl_S_178 : FLk "SandLorry" 178 2 4 := ⟨_, rfl, by decide, rfl, TG_at 99 (by decide +kernel) (by decide +kernel)⟩
theorem ml_P_3 : Cond.methodLink "SandLorry$Tape" 3 Lib.objectInit ∈ TG := TG_at 116 (by decide +kernel) (by decide +kernel)
theorem fl_P_9 : FLk "SandLorry$Tape" 9 4 0 := ⟨_, rfl, by decide, rfl, TG_at 117 (by decide +kernel) (by decide +kernel)⟩
theorem fl_P_15 : FLk "SandLorry$Tape" 15 4 1 := ⟨_, rfl, by decide, rfl, TG_at 118 (by decide +kernel) (by decide +kernel)⟩
theorem fl_S_137 : FLk "SandLorry" 137 4 1 := ⟨_, rfl, by decide, rfl, TG_at 119 (by decide +kernel) (by decide +kernel)⟩
theorem fl_P_32 : FLk "SandLorry$Tape" 32 4 2 := ⟨_, rfl, by decide, rfl, TG_at 120 (by decide +kernel) (by decide +kernel)⟩
theorem fl_P_29 : FLk "SandLorry$Tape" 29 4 3 := ⟨_, rfl, by decide, rfl, TG_at 121 (by decide +kernel) (by decide +kernel)⟩
theorem fl_P_19 : FLk "SandLorry$Tape" 19 4 4 := ⟨_, rfl, by decide, rfl, TG_at 122 (by decide +kernel) (by decide +kernel)⟩
theorem fl_P_55 : FLk "SandLorry$Tape" 55 4 5 := ⟨_, rfl, by decide, rfl, TG_at 123 (by decide +kernel) (by decide +kernel)⟩
theorem ml_T_3 : Cond.methodLink "SandLorry$Sheet" 3 Lib.objectInit ∈ TG := TG_at 143 (by decide +kernel) (by decide +kernel)
theorem fl_T_9 : FLk "SandLorry$Sheet" 9 3 0 := ⟨_, rfl, by decide, rfl, TG_at 144 (by decide +kernel) (by decide +kernel)⟩
theorem fl_S_213 : FLk "SandLorry" 213 3 0 := ⟨_, rfl, by decide, rfl, TG_at 145 (by decide +kernel) (by decide +kernel)⟩
theorem fl_T_15 : FLk "SandLorry$Sheet" 15 3 1 := ⟨_, rfl, by decide, rfl, TG_at 146 (by decide +kernel) (by decide +kernel)⟩
theorem fl_S_219 : FLk "SandLorry" 219 3 1 := ⟨_, rfl, by decide, rfl, TG_at 147 (by decide +kernel) (by decide +kernel)⟩
theorem fl_T_29 : FLk "SandLorry$Sheet" 29 3 2 := ⟨_, rfl, by decide, rfl, TG_at 148 (by decide +kernel) (by decide +kernel)⟩
theorem fl_S_204 : FLk "SandLorry" 204 3 2 := ⟨_, rfl, by decide, rfl, TG_at 149 (by decide +kernel) (by decide +kernel)⟩
theorem fl_S_10 : FLk "SandLorry" 10 5 0 := ⟨_, rfl, by decide, rfl, TG_at 157 (by decide +kernel) (by decide +kernel)⟩
theorem fl_S_16 : FLk "SandLorry" 16 5 1 := ⟨_, rfl, by decide, rfl, TG_at 158 (by decide +kernel) (by decide +kernel)⟩
theorem fl_S_19 : FLk "SandLorry" 19 5 2 := ⟨_, rfl, by decide, rfl, TG_at 159 (by decide +kernel) (by decide +kernel)⟩
theorem fl_S_26 : FLk "SandLorry" 26 5 3 := ⟨_, rfl, by decide, rfl, TG_at 160 (by decide +kernel) (by decide +kernel)⟩
theorem fl_S_36 : FLk "SandLorry" 36 5 4 := ⟨_, rfl, by decide, rfl, TG_at 161 (by decide +kernel) (by decide +kernel)⟩
theorem fl_S_42 : FLk "SandLorry" 42 5 5 := ⟨_, rfl, by decide, rfl, TG_at 162 (by decide +kernel) (by decide +kernel)⟩
theorem fl_S_49 : FLk "SandLorry" 49 5 6 := ⟨_, rfl, by decide, rfl, TG_at 163 (by decide +kernel) (by decide +kernel)⟩
theorem fl_S_56 : FLk "SandLorry" 56 5 7 := ⟨_, rfl, by decide, rfl, TG_at 164 (by decide +kernel) (by decide +kernel)⟩
theorem fl_S_60 : FLk "SandLorry" 60 5 8 := ⟨_, rfl, by decide, rfl, TG_at 165 (by decide +kernel) (by decide +kernel)⟩
theorem fl_S_233 : FLk "SandLorry" 233 5 9 := ⟨_, rfl, by decide, rfl, TG_at 166 (by decide +kernel) (by decide +kernel)⟩
theorem ml_law_13 : Cond.methodLink "SandLorryLaw" 13 k_S_sand.1 ∈ TG := TG_at 188 (by decide +kernel) (by decide +kernel)
theorem ml_S_63 : Cond.methodLink "SandLorry" 63 k_S_isYard.1 ∈ TG := TG_at 192 (by decide +kernel) (by decide +kernel)
theorem ml_S_67 : Cond.methodLink "SandLorry" 67 k_S_finding.1 ∈ TG := TG_at 195 (by decide +kernel) (by decide +kernel)
theorem cn_S_240 : Cond.constant "SandLorry" 240 (-1000001) ∈ TG := TG_at 199 (by decide +kernel) (by decide +kernel)
theorem ml_law_18 : Cond.methodLink "SandLorryLaw" 18 k_S_yardOf.1 ∈ TG := TG_at 200 (by decide +kernel) (by decide +kernel)
theorem ml_S_74 : Cond.methodLink "SandLorry" 74 k_L_gripOf.1 ∈ TG := TG_at 204 (by decide +kernel) (by decide +kernel)
theorem ml_L_28 : Cond.methodLink "SandLorry$Lorry" 28 k_L_hour.1 ∈ TG := TG_at 208 (by decide +kernel) (by decide +kernel)
theorem ml_law_22 : Cond.methodLink "SandLorryLaw" 22 k_S_set.1 ∈ TG := TG_at 212 (by decide +kernel) (by decide +kernel)
theorem ml_S_78 : Cond.methodLink "SandLorry" 78 k_S_leastOf.1 ∈ TG := TG_at 216 (by decide +kernel) (by decide +kernel)
theorem ml_S_81 : Cond.methodLink "SandLorry" 81 k_S_mostOf.1 ∈ TG := TG_at 219 (by decide +kernel) (by decide +kernel)
theorem ml_law_26 : Cond.methodLink "SandLorryLaw" 26 k_S_now.1 ∈ TG := TG_at 222 (by decide +kernel) (by decide +kernel)
theorem ml_S_84 : Cond.methodLink "SandLorry" 84 k_L_hour.1 ∈ TG := TG_at 226 (by decide +kernel) (by decide +kernel)
theorem ml_S_88 : Cond.methodLink "SandLorry" 88 k_L_heat.1 ∈ TG := TG_at 227 (by decide +kernel) (by decide +kernel)
theorem ml_S_91 : Cond.methodLink "SandLorry" 91 k_L_weight.1 ∈ TG := TG_at 231 (by decide +kernel) (by decide +kernel)
theorem ml_S_94 : Cond.methodLink "SandLorry" 94 k_L_isOut.1 ∈ TG := TG_at 238 (by decide +kernel) (by decide +kernel)
theorem ml_law_31 : Cond.methodLink "SandLorryLaw" 31 k_S_soft.1 ∈ TG := TG_at 243 (by decide +kernel) (by decide +kernel)
theorem ml_law_35 : Cond.methodLink "SandLorryLaw" 35 k_S_wind.1 ∈ TG := TG_at 247 (by decide +kernel) (by decide +kernel)
theorem ml_S_98 : Cond.methodLink "SandLorry" 98 k_C_draw.1 ∈ TG := TG_at 251 (by decide +kernel) (by decide +kernel)
theorem cn_C_57 : Cond.constant "SandLorry$Scene" 57 (1103515245) ∈ TG := TG_at 255 (by decide +kernel) (by decide +kernel)
theorem ml_S_101 : Cond.methodLink "SandLorry" 101 k_C_firmInAll.1 ∈ TG := TG_at 256 (by decide +kernel) (by decide +kernel)
theorem ml_law_39 : Cond.methodLink "SandLorryLaw" 39 k_S_effort.1 ∈ TG := TG_at 260 (by decide +kernel) (by decide +kernel)
theorem ml_S_104 : Cond.methodLink "SandLorry" 104 k_S_isSlot.1 ∈ TG := TG_at 264 (by decide +kernel) (by decide +kernel)
theorem ml_law_43 : Cond.methodLink "SandLorryLaw" 43 k_S_effortOf.1 ∈ TG := TG_at 267 (by decide +kernel) (by decide +kernel)
theorem ml_S_110 : Cond.methodLink "SandLorry" 110 k_L_minutesOf.1 ∈ TG := TG_at 271 (by decide +kernel) (by decide +kernel)
theorem ml_S_113 : Cond.methodLink "SandLorry" 113 k_S_workOf.1 ∈ TG := TG_at 275 (by decide +kernel) (by decide +kernel)
theorem ml_S_116 : Cond.methodLink "SandLorry" 116 k_L_drinkOf.1 ∈ TG := TG_at 278 (by decide +kernel) (by decide +kernel)
theorem ml_L_40 : Cond.methodLink "SandLorry$Lorry" 40 k_L_heat.1 ∈ TG := TG_at 283 (by decide +kernel) (by decide +kernel)
theorem ml_L_43 : Cond.methodLink "SandLorry$Lorry" 43 k_L_minutesOf.1 ∈ TG := TG_at 284 (by decide +kernel) (by decide +kernel)
theorem ml_law_47 : Cond.methodLink "SandLorryLaw" 47 k_S_go.1 ∈ TG := TG_at 285 (by decide +kernel) (by decide +kernel)
theorem ml_S_119 : Cond.methodLink "SandLorry" 119 k_L_carriesOut.1 ∈ TG := TG_at 289 (by decide +kernel) (by decide +kernel)
theorem ml_L_46 : Cond.methodLink "SandLorry$Lorry" 46 k_L_drinkOf.1 ∈ TG := TG_at 293 (by decide +kernel) (by decide +kernel)
theorem ml_L_49 : Cond.methodLink "SandLorry$Lorry" 49 k_L_isOut.1 ∈ TG := TG_at 294 (by decide +kernel) (by decide +kernel)
theorem ml_S_241 : Cond.methodLink "SandLorry" 241 k_S_kindAbove.1 ∈ TG := TG_at 298 (by decide +kernel) (by decide +kernel)
theorem ml_L_57 : Cond.methodLink "SandLorry$Lorry" 57 Lib.Math.max.name ∈ TG := TG_at 301 (by decide +kernel) (by decide +kernel)
theorem ml_L_62 : Cond.methodLink "SandLorry$Lorry" 62 Lib.Math.min.name ∈ TG := TG_at 304 (by decide +kernel) (by decide +kernel)
theorem ml_L_65 : Cond.methodLink "SandLorry$Lorry" 65 k_L_drive.1 ∈ TG := TG_at 307 (by decide +kernel) (by decide +kernel)
theorem ml_L_69 : Cond.methodLink "SandLorry$Lorry" 69 k_L_push.1 ∈ TG := TG_at 311 (by decide +kernel) (by decide +kernel)
theorem ml_L_73 : Cond.methodLink "SandLorry$Lorry" 73 k_L_gripOf.1 ∈ TG := TG_at 315 (by decide +kernel) (by decide +kernel)
theorem ml_L_76 : Cond.methodLink "SandLorry$Lorry" 76 k_L_weight.1 ∈ TG := TG_at 316 (by decide +kernel) (by decide +kernel)
theorem ml_law_51 : Cond.methodLink "SandLorryLaw" 51 k_S_gives.1 ∈ TG := TG_at 317 (by decide +kernel) (by decide +kernel)
theorem ml_S_122 : Cond.methodLink "SandLorry" 122 k_L_become.1 ∈ TG := TG_at 321 (by decide +kernel) (by decide +kernel)
theorem ml_L_18 : Cond.methodLink "SandLorry$Lorry" 18 arraycopyName ∈ TG := TG_at 325 (by decide +kernel) (by decide +kernel)
theorem ml_S_126 : Cond.methodLink "SandLorry" 126 k_L_since.1 ∈ TG := TG_at 328 (by decide +kernel) (by decide +kernel)
theorem ml_law_55 : Cond.methodLink "SandLorryLaw" 55 k_S_lasts.1 ∈ TG := TG_at 332 (by decide +kernel) (by decide +kernel)
theorem ml_law_59 : Cond.methodLink "SandLorryLaw" 59 k_S_out.1 ∈ TG := TG_at 336 (by decide +kernel) (by decide +kernel)
theorem ml_S_130 : Cond.methodLink "SandLorry" 130 k_S_timesTillOut.1 ∈ TG := TG_at 340 (by decide +kernel) (by decide +kernel)
theorem ml_law_63 : Cond.methodLink "SandLorryLaw" 63 k_S_when.1 ∈ TG := TG_at 344 (by decide +kernel) (by decide +kernel)
theorem ml_S_133 : Cond.methodLink "SandLorry" 133 k_L_passHours.1 ∈ TG := TG_at 348 (by decide +kernel) (by decide +kernel)
theorem ml_law_67 : Cond.methodLink "SandLorryLaw" 67 k_S_feed.1 ∈ TG := TG_at 352 (by decide +kernel) (by decide +kernel)
theorem ml_S_141 : Cond.methodLink "SandLorry" 141 k_P_append.1 ∈ TG := TG_at 356 (by decide +kernel) (by decide +kernel)
theorem ml_law_71 : Cond.methodLink "SandLorryLaw" 71 k_S_wipe.1 ∈ TG := TG_at 360 (by decide +kernel) (by decide +kernel)
theorem ml_law_76 : Cond.methodLink "SandLorryLaw" 76 k_S_text.1 ∈ TG := TG_at 364 (by decide +kernel) (by decide +kernel)
theorem ml_S_144 : Cond.methodLink "SandLorry" 144 k_C_become.1 ∈ TG := TG_at 368 (by decide +kernel) (by decide +kernel)
theorem ml_C_44 : Cond.methodLink "SandLorry$Scene" 44 arraycopyName ∈ TG := TG_at 372 (by decide +kernel) (by decide +kernel)
theorem ml_C_50 : Cond.methodLink "SandLorry$Scene" 50 k_L_become.1 ∈ TG := TG_at 373 (by decide +kernel) (by decide +kernel)
theorem ml_S_147 : Cond.methodLink "SandLorry" 147 k_P_readInto.1 ∈ TG := TG_at 374 (by decide +kernel) (by decide +kernel)
theorem ml_P_22 : Cond.methodLink "SandLorry$Tape" 22 k_P_step.1 ∈ TG := TG_at 378 (by decide +kernel) (by decide +kernel)
theorem ml_P_84 : Cond.methodLink "SandLorry$Tape" 84 k_P_endOfRun.1 ∈ TG := TG_at 382 (by decide +kernel) (by decide +kernel)
theorem ml_P_91 : Cond.methodLink "SandLorry$Tape" 91 Lib.Math.max.name ∈ TG := TG_at 386 (by decide +kernel) (by decide +kernel)
theorem ml_P_88 : Cond.methodLink "SandLorry$Tape" 88 k_P_numberRead.1 ∈ TG := TG_at 387 (by decide +kernel) (by decide +kernel)
theorem ml_P_97 : Cond.methodLink "SandLorry$Tape" 97 Lib.Math.min.name ∈ TG := TG_at 391 (by decide +kernel) (by decide +kernel)
theorem ml_P_25 : Cond.methodLink "SandLorry$Tape" 25 k_P_readItem.1 ∈ TG := TG_at 392 (by decide +kernel) (by decide +kernel)
theorem ml_P_35 : Cond.methodLink "SandLorry$Tape" 35 k_P_wordRead.1 ∈ TG := TG_at 396 (by decide +kernel) (by decide +kernel)
theorem ml_P_100 : Cond.methodLink "SandLorry$Tape" 100 k_P_wordOf.1 ∈ TG := TG_at 400 (by decide +kernel) (by decide +kernel)
theorem ml_P_104 : Cond.methodLink "SandLorry$Tape" 104 k_P_spells.1 ∈ TG := TG_at 417 (by decide +kernel) (by decide +kernel)
theorem ml_P_108 : Cond.methodLink "SandLorry$Tape" 108 k_JS_length.1 ∈ TG := TG_at 421 (by decide +kernel) (by decide +kernel)
theorem ml_JS_335 : Cond.methodLink "java/lang/String" 335 k_JS_coder.1 ∈ TG := TG_at 425 (by decide +kernel) (by decide +kernel)
theorem ml_P_112 : Cond.methodLink "SandLorry$Tape" 112 k_JS_charAt.1 ∈ TG := TG_at 431 (by decide +kernel) (by decide +kernel)
theorem ml_JS_492 : Cond.methodLink "java/lang/String" 492 k_JS_isLatin1.1 ∈ TG := TG_at 435 (by decide +kernel) (by decide +kernel)
theorem ml_JS_495 : Cond.methodLink "java/lang/String" 495 k_JL_charAt.1 ∈ TG := TG_at 439 (by decide +kernel) (by decide +kernel)
theorem ml_JL_9 : Cond.methodLink "java/lang/StringLatin1" 9 k_JS_checkIndex.1 ∈ TG := TG_at 442 (by decide +kernel) (by decide +kernel)
theorem ml_JS_1059 : Cond.methodLink "java/lang/String" 1059 k_JP_checkIndex.1 ∈ TG := TG_at 447 (by decide +kernel) (by decide +kernel)
theorem ml_JS_498 : Cond.methodLink "java/lang/String" 498 k_JU_charAt.1 ∈ TG := TG_at 450 (by decide +kernel) (by decide +kernel)
theorem ml_JU_67 : Cond.methodLink "java/lang/StringUTF16" 67 k_JU_checkIndex.1 ∈ TG := TG_at 453 (by decide +kernel) (by decide +kernel)
theorem ml_JU_48 : Cond.methodLink "java/lang/StringUTF16" 48 k_JU_length.1 ∈ TG := TG_at 456 (by decide +kernel) (by decide +kernel)
theorem ml_JU_414 : Cond.methodLink "java/lang/StringUTF16" 414 k_JS_checkIndex.1 ∈ TG := TG_at 459 (by decide +kernel) (by decide +kernel)
theorem ml_JU_71 : Cond.methodLink "java/lang/StringUTF16" 71 k_JU_getChar.1 ∈ TG := TG_at 460 (by decide +kernel) (by decide +kernel)
theorem ml_P_39 : Cond.methodLink "SandLorry$Tape" 39 k_P_readEfforts.1 ∈ TG := TG_at 469 (by decide +kernel) (by decide +kernel)
theorem ml_P_49 : Cond.methodLink "SandLorry$Tape" 49 k_C_hasRoomFor.1 ∈ TG := TG_at 473 (by decide +kernel) (by decide +kernel)
theorem ml_P_58 : Cond.methodLink "SandLorry$Tape" 58 k_C_addToPlan.1 ∈ TG := TG_at 477 (by decide +kernel) (by decide +kernel)
theorem ml_P_43 : Cond.methodLink "SandLorry$Tape" 43 k_P_readSand.1 ∈ TG := TG_at 481 (by decide +kernel) (by decide +kernel)
theorem ml_P_46 : Cond.methodLink "SandLorry$Tape" 46 k_P_readNumber.1 ∈ TG := TG_at 486 (by decide +kernel) (by decide +kernel)
theorem ml_law_80 : Cond.methodLink "SandLorryLaw" 80 k_S_planOf.1 ∈ TG := TG_at 493 (by decide +kernel) (by decide +kernel)
theorem ml_law_84 : Cond.methodLink "SandLorryLaw" 84 k_S_clear.1 ∈ TG := TG_at 497 (by decide +kernel) (by decide +kernel)
theorem ml_law_88 : Cond.methodLink "SandLorryLaw" 88 k_S_follow.1 ∈ TG := TG_at 501 (by decide +kernel) (by decide +kernel)
theorem ml_S_157 : Cond.methodLink "SandLorry" 157 k_C_planDoneBy.1 ∈ TG := TG_at 505 (by decide +kernel) (by decide +kernel)
theorem ml_C_58 : Cond.methodLink "SandLorry$Scene" 58 k_L_carriesOut.1 ∈ TG := TG_at 509 (by decide +kernel) (by decide +kernel)
theorem ml_law_92 : Cond.methodLink "SandLorryLaw" 92 k_S_plans.1 ∈ TG := TG_at 510 (by decide +kernel) (by decide +kernel)
theorem ml_law_96 : Cond.methodLink "SandLorryLaw" 96 k_S_best.1 ∈ TG := TG_at 514 (by decide +kernel) (by decide +kernel)
theorem ml_S_161 : Cond.methodLink "SandLorry" 161 k_H_begin.1 ∈ TG := TG_at 518 (by decide +kernel) (by decide +kernel)
theorem ml_H_20 : Cond.methodLink "SandLorry$Search" 20 k_L_become.1 ∈ TG := TG_at 522 (by decide +kernel) (by decide +kernel)
theorem ml_H_28 : Cond.methodLink "SandLorry$Search" 28 k_H_weigh.1 ∈ TG := TG_at 526 (by decide +kernel) (by decide +kernel)
theorem ml_H_40 : Cond.methodLink "SandLorry$Search" 40 k_L_since.1 ∈ TG := TG_at 530 (by decide +kernel) (by decide +kernel)
theorem ml_H_32 : Cond.methodLink "SandLorry$Search" 32 k_L_carriesOut.1 ∈ TG := TG_at 531 (by decide +kernel) (by decide +kernel)
theorem ml_H_36 : Cond.methodLink "SandLorry$Search" 36 k_H_tryRows.1 ∈ TG := TG_at 532 (by decide +kernel) (by decide +kernel)
theorem ml_law_100 : Cond.methodLink "SandLorryLaw" 100 k_S_airFor.1 ∈ TG := TG_at 533 (by decide +kernel) (by decide +kernel)
theorem ml_law_104 : Cond.methodLink "SandLorryLaw" 104 k_S_sacksFor.1 ∈ TG := TG_at 537 (by decide +kernel) (by decide +kernel)
theorem ml_S_181 : Cond.methodLink "SandLorry" 181 k_S_weightOf.1 ∈ TG := TG_at 541 (by decide +kernel) (by decide +kernel)
theorem ml_law_108 : Cond.methodLink "SandLorryLaw" 108 k_S_waterFor.1 ∈ TG := TG_at 542 (by decide +kernel) (by decide +kernel)
theorem ml_law_112 : Cond.methodLink "SandLorryLaw" 112 k_S_boardsFor.1 ∈ TG := TG_at 546 (by decide +kernel) (by decide +kernel)
theorem ml_law_116 : Cond.methodLink "SandLorryLaw" 116 k_S_way.1 ∈ TG := TG_at 550 (by decide +kernel) (by decide +kernel)
theorem ml_law_120 : Cond.methodLink "SandLorryLaw" 120 k_S_odds.1 ∈ TG := TG_at 554 (by decide +kernel) (by decide +kernel)
theorem ml_law_124 : Cond.methodLink "SandLorryLaw" 124 k_S_seed.1 ∈ TG := TG_at 558 (by decide +kernel) (by decide +kernel)
theorem ml_law_128 : Cond.methodLink "SandLorryLaw" 128 k_S_hold.1 ∈ TG := TG_at 562 (by decide +kernel) (by decide +kernel)
theorem ml_S_187 : Cond.methodLink "SandLorry" 187 k_S_isSpot.1 ∈ TG := TG_at 566 (by decide +kernel) (by decide +kernel)
theorem ml_law_132 : Cond.methodLink "SandLorryLaw" 132 k_S_as.1 ∈ TG := TG_at 569 (by decide +kernel) (by decide +kernel)
theorem ml_S_193 : Cond.methodLink "SandLorry" 193 k_S_isOfKind.1 ∈ TG := TG_at 573 (by decide +kernel) (by decide +kernel)
theorem ml_law_136 : Cond.methodLink "SandLorryLaw" 136 k_S_sheet.1 ∈ TG := TG_at 574 (by decide +kernel) (by decide +kernel)
theorem ml_S_197 : Cond.methodLink "SandLorry" 197 k_S_isSheet.1 ∈ TG := TG_at 578 (by decide +kernel) (by decide +kernel)
theorem ml_S_200 : Cond.methodLink "SandLorry" 200 k_T_renew.1 ∈ TG := TG_at 581 (by decide +kernel) (by decide +kernel)
theorem ml_T_19 : Cond.methodLink "SandLorry$Sheet" 19 k_JA_fill.1 ∈ TG := TG_at 585 (by decide +kernel) (by decide +kernel)
theorem ml_T_25 : Cond.methodLink "SandLorry$Sheet" 25 k_T_isMissing.1 ∈ TG := TG_at 586 (by decide +kernel) (by decide +kernel)
theorem ml_law_141 : Cond.methodLink "SandLorryLaw" 141 k_S_write.1 ∈ TG := TG_at 590 (by decide +kernel) (by decide +kernel)
theorem ml_S_207 : Cond.methodLink "SandLorry" 207 k_T_isMissing.1 ∈ TG := TG_at 594 (by decide +kernel) (by decide +kernel)
theorem ml_S_210 : Cond.methodLink "SandLorry" 210 k_T_hasAll.1 ∈ TG := TG_at 595 (by decide +kernel) (by decide +kernel)
theorem ml_S_216 : Cond.methodLink "SandLorry" 216 k_T_fitted.1 ∈ TG := TG_at 599 (by decide +kernel) (by decide +kernel)
theorem ml_law_145 : Cond.methodLink "SandLorryLaw" 145 k_S_copy.1 ∈ TG := TG_at 603 (by decide +kernel) (by decide +kernel)
theorem ml_S_222 : Cond.methodLink "SandLorry" 222 arraycopyName ∈ TG := TG_at 607 (by decide +kernel) (by decide +kernel)
theorem ml_law_150 : Cond.methodLink "SandLorryLaw" 150 k_S_load.1 ∈ TG := TG_at 608 (by decide +kernel) (by decide +kernel)
theorem ml_S_228 : Cond.methodLink "SandLorry" 228 Lib.Math.min.name ∈ TG := TG_at 612 (by decide +kernel) (by decide +kernel)
theorem ml_law_154 : Cond.methodLink "SandLorryLaw" 154 k_S_judge.1 ∈ TG := TG_at 613 (by decide +kernel) (by decide +kernel)
theorem ml_law_158 : Cond.methodLink "SandLorryLaw" 158 k_S_image.1 ∈ TG := TG_at 617 (by decide +kernel) (by decide +kernel)
theorem ml_law_162 : Cond.methodLink "SandLorryLaw" 162 k_S_undo.1 ∈ TG := TG_at 621 (by decide +kernel) (by decide +kernel)
theorem ml_law_166 : Cond.methodLink "SandLorryLaw" 166 k_S_tear.1 ∈ TG := TG_at 625 (by decide +kernel) (by decide +kernel)
theorem ml_law_170 : Cond.methodLink "SandLorryLaw" 170 k_S_count.1 ∈ TG := TG_at 629 (by decide +kernel) (by decide +kernel)
theorem ml_S_236 : Cond.methodLink "SandLorry" 236 k_S_filledOf.1 ∈ TG := TG_at 633 (by decide +kernel) (by decide +kernel)
theorem ml_law_174 : Cond.methodLink "SandLorryLaw" 174 k_S_status.1 ∈ TG := TG_at 636 (by decide +kernel) (by decide +kernel)
theorem ml_law_12 : Cond.methodLink "SandLorryLaw" 12 k_M_init.1 ∈ TG := TG_at 642 (by decide +kernel) (by decide +kernel)
theorem ml_M_1 : Cond.methodLink "SandLorryModel" 1 Lib.objectInit ∈ TG := TG_at 645 (by decide +kernel) (by decide +kernel)
theorem fl_M_7 : FLk "SandLorryModel" 7 6 0 := ⟨_, rfl, by decide, rfl, TG_at 646 (by decide +kernel) (by decide +kernel)⟩
theorem fl_M_13 : FLk "SandLorryModel" 13 6 1 := ⟨_, rfl, by decide, rfl, TG_at 647 (by decide +kernel) (by decide +kernel)⟩
theorem fl_M_16 : FLk "SandLorryModel" 16 6 2 := ⟨_, rfl, by decide, rfl, TG_at 648 (by decide +kernel) (by decide +kernel)⟩
theorem fl_M_236 : FLk "SandLorryModel" 236 6 3 := ⟨_, rfl, by decide, rfl, TG_at 649 (by decide +kernel) (by decide +kernel)⟩
theorem fl_M_19 : FLk "SandLorryModel" 19 6 4 := ⟨_, rfl, by decide, rfl, TG_at 650 (by decide +kernel) (by decide +kernel)⟩
theorem fl_M_22 : FLk "SandLorryModel" 22 6 5 := ⟨_, rfl, by decide, rfl, TG_at 651 (by decide +kernel) (by decide +kernel)⟩
theorem fl_M_136 : FLk "SandLorryModel" 136 6 6 := ⟨_, rfl, by decide, rfl, TG_at 652 (by decide +kernel) (by decide +kernel)⟩
theorem fl_M_140 : FLk "SandLorryModel" 140 6 7 := ⟨_, rfl, by decide, rfl, TG_at 653 (by decide +kernel) (by decide +kernel)⟩
theorem fl_M_149 : FLk "SandLorryModel" 149 6 8 := ⟨_, rfl, by decide, rfl, TG_at 654 (by decide +kernel) (by decide +kernel)⟩
theorem fl_M_146 : FLk "SandLorryModel" 146 6 9 := ⟨_, rfl, by decide, rfl, TG_at 655 (by decide +kernel) (by decide +kernel)⟩
theorem fl_M_152 : FLk "SandLorryModel" 152 6 10 := ⟨_, rfl, by decide, rfl, TG_at 656 (by decide +kernel) (by decide +kernel)⟩
theorem fl_M_25 : FLk "SandLorryModel" 25 6 11 := ⟨_, rfl, by decide, rfl, TG_at 657 (by decide +kernel) (by decide +kernel)⟩
theorem fl_M_28 : FLk "SandLorryModel" 28 6 12 := ⟨_, rfl, by decide, rfl, TG_at 658 (by decide +kernel) (by decide +kernel)⟩
theorem fl_M_31 : FLk "SandLorryModel" 31 6 13 := ⟨_, rfl, by decide, rfl, TG_at 659 (by decide +kernel) (by decide +kernel)⟩
theorem fl_M_34 : FLk "SandLorryModel" 34 6 14 := ⟨_, rfl, by decide, rfl, TG_at 660 (by decide +kernel) (by decide +kernel)⟩
theorem fl_M_37 : FLk "SandLorryModel" 37 6 15 := ⟨_, rfl, by decide, rfl, TG_at 661 (by decide +kernel) (by decide +kernel)⟩
theorem ml_law_17 : Cond.methodLink "SandLorryLaw" 17 k_M_sand.1 ∈ TG := TG_at 695 (by decide +kernel) (by decide +kernel)
theorem ml_M_49 : Cond.methodLink "SandLorryModel" 49 k_M_isYard.1 ∈ TG := TG_at 699 (by decide +kernel) (by decide +kernel)
theorem ml_M_45 : Cond.methodLink "SandLorryModel" 45 k_M_in.1 ∈ TG := TG_at 702 (by decide +kernel) (by decide +kernel)
theorem ml_M_61 : Cond.methodLink "SandLorryModel" 61 k_M_finding.1 ∈ TG := TG_at 705 (by decide +kernel) (by decide +kernel)
theorem cn_M_40 : Cond.constant "SandLorryModel" 40 (-1000001) ∈ TG := TG_at 709 (by decide +kernel) (by decide +kernel)
theorem ml_law_21 : Cond.methodLink "SandLorryLaw" 21 k_M_yardOf.1 ∈ TG := TG_at 710 (by decide +kernel) (by decide +kernel)
theorem ml_M_65 : Cond.methodLink "SandLorryModel" 65 k_M_grip.1 ∈ TG := TG_at 714 (by decide +kernel) (by decide +kernel)
theorem ml_M_57 : Cond.methodLink "SandLorryModel" 57 k_M_gripOf.1 ∈ TG := TG_at 718 (by decide +kernel) (by decide +kernel)
theorem ml_M_53 : Cond.methodLink "SandLorryModel" 53 k_M_hour.1 ∈ TG := TG_at 722 (by decide +kernel) (by decide +kernel)
theorem ml_law_25 : Cond.methodLink "SandLorryLaw" 25 k_M_set.1 ∈ TG := TG_at 726 (by decide +kernel) (by decide +kernel)
theorem ml_M_71 : Cond.methodLink "SandLorryModel" 71 k_M_isSet.1 ∈ TG := TG_at 730 (by decide +kernel) (by decide +kernel)
theorem ml_M_68 : Cond.methodLink "SandLorryModel" 68 k_M_mostOf.1 ∈ TG := TG_at 733 (by decide +kernel) (by decide +kernel)
theorem ml_law_30 : Cond.methodLink "SandLorryLaw" 30 k_M_now.1 ∈ TG := TG_at 736 (by decide +kernel) (by decide +kernel)
theorem ml_M_75 : Cond.methodLink "SandLorryModel" 75 k_M_heat.1 ∈ TG := TG_at 740 (by decide +kernel) (by decide +kernel)
theorem ml_M_78 : Cond.methodLink "SandLorryModel" 78 k_M_weight.1 ∈ TG := TG_at 744 (by decide +kernel) (by decide +kernel)
theorem ml_M_81 : Cond.methodLink "SandLorryModel" 81 k_M_isOut.1 ∈ TG := TG_at 748 (by decide +kernel) (by decide +kernel)
theorem ml_law_34 : Cond.methodLink "SandLorryLaw" 34 k_M_soft.1 ∈ TG := TG_at 752 (by decide +kernel) (by decide +kernel)
theorem ml_law_38 : Cond.methodLink "SandLorryLaw" 38 k_M_wind.1 ∈ TG := TG_at 756 (by decide +kernel) (by decide +kernel)
theorem ml_M_86 : Cond.methodLink "SandLorryModel" 86 k_M_draw.1 ∈ TG := TG_at 760 (by decide +kernel) (by decide +kernel)
theorem cn_M_85 : Cond.constant "SandLorryModel" 85 (1103515245) ∈ TG := TG_at 764 (by decide +kernel) (by decide +kernel)
theorem ml_M_89 : Cond.methodLink "SandLorryModel" 89 k_M_allFirm.1 ∈ TG := TG_at 765 (by decide +kernel) (by decide +kernel)
theorem ml_law_42 : Cond.methodLink "SandLorryLaw" 42 k_M_effort.1 ∈ TG := TG_at 769 (by decide +kernel) (by decide +kernel)
theorem ml_M_108 : Cond.methodLink "SandLorryModel" 108 k_M_isSlot.1 ∈ TG := TG_at 773 (by decide +kernel) (by decide +kernel)
theorem ml_M_111 : Cond.methodLink "SandLorryModel" 111 k_M_isKind.1 ∈ TG := TG_at 776 (by decide +kernel) (by decide +kernel)
theorem ml_law_46 : Cond.methodLink "SandLorryLaw" 46 k_M_effortOf.1 ∈ TG := TG_at 779 (by decide +kernel) (by decide +kernel)
theorem ml_M_95 : Cond.methodLink "SandLorryModel" 95 k_M_minutesOf.1 ∈ TG := TG_at 783 (by decide +kernel) (by decide +kernel)
theorem ml_M_92 : Cond.methodLink "SandLorryModel" 92 k_M_workOf.1 ∈ TG := TG_at 787 (by decide +kernel) (by decide +kernel)
theorem ml_M_98 : Cond.methodLink "SandLorryModel" 98 k_M_drinks.1 ∈ TG := TG_at 790 (by decide +kernel) (by decide +kernel)
theorem ml_law_50 : Cond.methodLink "SandLorryLaw" 50 k_M_go.1 ∈ TG := TG_at 794 (by decide +kernel) (by decide +kernel)
theorem ml_M_114 : Cond.methodLink "SandLorryModel" 114 k_M_canDo.1 ∈ TG := TG_at 798 (by decide +kernel) (by decide +kernel)
theorem ml_M_117 : Cond.methodLink "SandLorryModel" 117 k_M_does.1 ∈ TG := TG_at 802 (by decide +kernel) (by decide +kernel)
theorem ml_M_101 : Cond.methodLink "SandLorryModel" 101 k_M_digs.1 ∈ TG := TG_at 806 (by decide +kernel) (by decide +kernel)
theorem ml_M_104 : Cond.methodLink "SandLorryModel" 104 k_M_pushes.1 ∈ TG := TG_at 810 (by decide +kernel) (by decide +kernel)
theorem ml_law_54 : Cond.methodLink "SandLorryLaw" 54 k_M_gives.1 ∈ TG := TG_at 814 (by decide +kernel) (by decide +kernel)
theorem ml_M_124 : Cond.methodLink "SandLorryModel" 124 k_M_begin.1 ∈ TG := TG_at 818 (by decide +kernel) (by decide +kernel)
theorem ml_M_41 : Cond.methodLink "SandLorryModel" 41 k_M_lay.1 ∈ TG := TG_at 822 (by decide +kernel) (by decide +kernel)
theorem ml_M_127 : Cond.methodLink "SandLorryModel" 127 k_M_became.1 ∈ TG := TG_at 825 (by decide +kernel) (by decide +kernel)
theorem ml_M_121 : Cond.methodLink "SandLorryModel" 121 k_M_layBack.1 ∈ TG := TG_at 829 (by decide +kernel) (by decide +kernel)
theorem ml_law_58 : Cond.methodLink "SandLorryLaw" 58 k_M_lasts.1 ∈ TG := TG_at 833 (by decide +kernel) (by decide +kernel)
theorem ml_M_130 : Cond.methodLink "SandLorryModel" 130 k_M_again.1 ∈ TG := TG_at 837 (by decide +kernel) (by decide +kernel)
theorem ml_law_62 : Cond.methodLink "SandLorryLaw" 62 k_M_out.1 ∈ TG := TG_at 841 (by decide +kernel) (by decide +kernel)
theorem ml_M_133 : Cond.methodLink "SandLorryModel" 133 k_M_outBy.1 ∈ TG := TG_at 845 (by decide +kernel) (by decide +kernel)
theorem ml_law_66 : Cond.methodLink "SandLorryLaw" 66 k_M_when.1 ∈ TG := TG_at 849 (by decide +kernel) (by decide +kernel)
theorem ml_law_70 : Cond.methodLink "SandLorryLaw" 70 k_M_feed.1 ∈ TG := TG_at 853 (by decide +kernel) (by decide +kernel)
theorem ml_law_75 : Cond.methodLink "SandLorryLaw" 75 k_M_wipe.1 ∈ TG := TG_at 857 (by decide +kernel) (by decide +kernel)
theorem ml_law_79 : Cond.methodLink "SandLorryLaw" 79 k_M_text.1 ∈ TG := TG_at 861 (by decide +kernel) (by decide +kernel)
theorem ml_M_214 : Cond.methodLink "SandLorryModel" 214 k_M_takesAll.1 ∈ TG := TG_at 865 (by decide +kernel) (by decide +kernel)
theorem ml_M_164 : Cond.methodLink "SandLorryModel" 164 k_M_next.1 ∈ TG := TG_at 869 (by decide +kernel) (by decide +kernel)
theorem ml_M_143 : Cond.methodLink "SandLorryModel" 143 k_M_byteAt.1 ∈ TG := TG_at 873 (by decide +kernel) (by decide +kernel)
theorem ml_M_211 : Cond.methodLink "SandLorryModel" 211 k_M_takesItem.1 ∈ TG := TG_at 877 (by decide +kernel) (by decide +kernel)
theorem ml_M_172 : Cond.methodLink "SandLorryModel" 172 k_M_isWord.1 ∈ TG := TG_at 882 (by decide +kernel) (by decide +kernel)
theorem ml_M_155 : Cond.methodLink "SandLorryModel" 155 k_JS_length.1 ∈ TG := TG_at 886 (by decide +kernel) (by decide +kernel)
theorem ml_M_160 : Cond.methodLink "SandLorryModel" 160 k_JS_charAt.1 ∈ TG := TG_at 887 (by decide +kernel) (by decide +kernel)
theorem ml_M_176 : Cond.methodLink "SandLorryModel" 176 k_M_takesSand.1 ∈ TG := TG_at 888 (by decide +kernel) (by decide +kernel)
theorem ml_M_167 : Cond.methodLink "SandLorryModel" 167 k_M_isNumber.1 ∈ TG := TG_at 892 (by decide +kernel) (by decide +kernel)
theorem ml_M_189 : Cond.methodLink "SandLorryModel" 189 k_M_takesSet.1 ∈ TG := TG_at 901 (by decide +kernel) (by decide +kernel)
theorem ml_M_208 : Cond.methodLink "SandLorryModel" 208 k_M_takesKind.1 ∈ TG := TG_at 913 (by decide +kernel) (by decide +kernel)
theorem ml_law_83 : Cond.methodLink "SandLorryLaw" 83 k_M_planOf.1 ∈ TG := TG_at 917 (by decide +kernel) (by decide +kernel)
theorem ml_law_87 : Cond.methodLink "SandLorryLaw" 87 k_M_clear.1 ∈ TG := TG_at 921 (by decide +kernel) (by decide +kernel)
theorem ml_law_91 : Cond.methodLink "SandLorryLaw" 91 k_M_follow.1 ∈ TG := TG_at 925 (by decide +kernel) (by decide +kernel)
theorem ml_M_217 : Cond.methodLink "SandLorryModel" 217 k_M_follows.1 ∈ TG := TG_at 929 (by decide +kernel) (by decide +kernel)
theorem ml_law_95 : Cond.methodLink "SandLorryLaw" 95 k_M_plans.1 ∈ TG := TG_at 933 (by decide +kernel) (by decide +kernel)
theorem ml_law_99 : Cond.methodLink "SandLorryLaw" 99 k_M_best.1 ∈ TG := TG_at 937 (by decide +kernel) (by decide +kernel)
theorem ml_M_220 : Cond.methodLink "SandLorryModel" 220 k_M_doesRow.1 ∈ TG := TG_at 941 (by decide +kernel) (by decide +kernel)
theorem ml_M_223 : Cond.methodLink "SandLorryModel" 223 k_M_digits.1 ∈ TG := TG_at 945 (by decide +kernel) (by decide +kernel)
theorem ml_law_103 : Cond.methodLink "SandLorryLaw" 103 k_M_airFor.1 ∈ TG := TG_at 948 (by decide +kernel) (by decide +kernel)
theorem ml_law_107 : Cond.methodLink "SandLorryLaw" 107 k_M_sacksFor.1 ∈ TG := TG_at 952 (by decide +kernel) (by decide +kernel)
theorem ml_law_111 : Cond.methodLink "SandLorryLaw" 111 k_M_waterFor.1 ∈ TG := TG_at 956 (by decide +kernel) (by decide +kernel)
theorem cn_M_226 : Cond.constant "SandLorryModel" 226 (999999) ∈ TG := TG_at 960 (by decide +kernel) (by decide +kernel)
theorem ml_law_115 : Cond.methodLink "SandLorryLaw" 115 k_M_boardsFor.1 ∈ TG := TG_at 961 (by decide +kernel) (by decide +kernel)
theorem ml_law_119 : Cond.methodLink "SandLorryLaw" 119 k_M_way.1 ∈ TG := TG_at 965 (by decide +kernel) (by decide +kernel)
theorem ml_law_123 : Cond.methodLink "SandLorryLaw" 123 k_M_odds.1 ∈ TG := TG_at 969 (by decide +kernel) (by decide +kernel)
theorem ml_law_127 : Cond.methodLink "SandLorryLaw" 127 k_M_seed.1 ∈ TG := TG_at 973 (by decide +kernel) (by decide +kernel)
theorem ml_law_131 : Cond.methodLink "SandLorryLaw" 131 k_M_hold.1 ∈ TG := TG_at 977 (by decide +kernel) (by decide +kernel)
theorem ml_law_135 : Cond.methodLink "SandLorryLaw" 135 k_M_as.1 ∈ TG := TG_at 981 (by decide +kernel) (by decide +kernel)
theorem ml_M_227 : Cond.methodLink "SandLorryModel" 227 k_M_isUnder.1 ∈ TG := TG_at 985 (by decide +kernel) (by decide +kernel)
theorem ml_law_140 : Cond.methodLink "SandLorryLaw" 140 k_M_sheet.1 ∈ TG := TG_at 988 (by decide +kernel) (by decide +kernel)
theorem ml_M_230 : Cond.methodLink "SandLorryModel" 230 k_M_isSheet.1 ∈ TG := TG_at 992 (by decide +kernel) (by decide +kernel)
theorem ml_law_144 : Cond.methodLink "SandLorryLaw" 144 k_M_write.1 ∈ TG := TG_at 995 (by decide +kernel) (by decide +kernel)
theorem ml_law_149 : Cond.methodLink "SandLorryLaw" 149 k_M_copy.1 ∈ TG := TG_at 999 (by decide +kernel) (by decide +kernel)
theorem ml_law_153 : Cond.methodLink "SandLorryLaw" 153 k_M_load.1 ∈ TG := TG_at 1003 (by decide +kernel) (by decide +kernel)
theorem ml_M_233 : Cond.methodLink "SandLorryModel" 233 k_M_lacks.1 ∈ TG := TG_at 1007 (by decide +kernel) (by decide +kernel)
theorem ml_law_157 : Cond.methodLink "SandLorryLaw" 157 k_M_judge.1 ∈ TG := TG_at 1011 (by decide +kernel) (by decide +kernel)
theorem ml_law_161 : Cond.methodLink "SandLorryLaw" 161 k_M_image.1 ∈ TG := TG_at 1015 (by decide +kernel) (by decide +kernel)
theorem ml_law_165 : Cond.methodLink "SandLorryLaw" 165 k_M_undo.1 ∈ TG := TG_at 1019 (by decide +kernel) (by decide +kernel)
theorem ml_law_169 : Cond.methodLink "SandLorryLaw" 169 k_M_tear.1 ∈ TG := TG_at 1023 (by decide +kernel) (by decide +kernel)
theorem ml_law_173 : Cond.methodLink "SandLorryLaw" 173 k_M_count.1 ∈ TG := TG_at 1027 (by decide +kernel) (by decide +kernel)
theorem ml_M_240 : Cond.methodLink "SandLorryModel" 240 k_M_told.1 ∈ TG := TG_at 1031 (by decide +kernel) (by decide +kernel)
theorem ml_law_177 : Cond.methodLink "SandLorryLaw" 177 k_M_status.1 ∈ TG := TG_at 1035 (by decide +kernel) (by decide +kernel)
theorem nl_S_48 : (("SandLorry", 48, k_P_init.1, "SandLorry") : String × Nat × MethodName × String) ∈ nests := List.mem_of_getElem? (i := 0) (by decide +kernel)
theorem nl_S_55 : (("SandLorry", 55, k_T_init.1, "SandLorry") : String × Nat × MethodName × String) ∈ nests := List.mem_of_getElem? (i := 1) (by decide +kernel)
theorem nl_L_32 : (("SandLorry$Lorry", 32, k_S_weightOf.1, "SandLorry") : String × Nat × MethodName × String) ∈ nests := List.mem_of_getElem? (i := 2) (by decide +kernel)
theorem nl_L_24 : (("SandLorry$Lorry", 24, k_S_isYard.1, "SandLorry") : String × Nat × MethodName × String) ∈ nests := List.mem_of_getElem? (i := 3) (by decide +kernel)
theorem nl_L_36 : (("SandLorry$Lorry", 36, k_S_workOf.1, "SandLorry") : String × Nat × MethodName × String) ∈ nests := List.mem_of_getElem? (i := 4) (by decide +kernel)
theorem nl_L_53 : (("SandLorry$Lorry", 53, k_S_isOfKind.1, "SandLorry") : String × Nat × MethodName × String) ∈ nests := List.mem_of_getElem? (i := 5) (by decide +kernel)
theorem nl_P_62 : (("SandLorry$Tape", 62, k_S_isYard.1, "SandLorry") : String × Nat × MethodName × String) ∈ nests := List.mem_of_getElem? (i := 6) (by decide +kernel)
theorem nl_P_68 : (("SandLorry$Tape", 68, k_S_leastOf.1, "SandLorry") : String × Nat × MethodName × String) ∈ nests := List.mem_of_getElem? (i := 7) (by decide +kernel)
theorem nl_P_72 : (("SandLorry$Tape", 72, k_S_mostOf.1, "SandLorry") : String × Nat × MethodName × String) ∈ nests := List.mem_of_getElem? (i := 8) (by decide +kernel)
theorem nl_S_164 : (("SandLorry", 164, k_H_tryRows.1, "SandLorry") : String × Nat × MethodName × String) ∈ nests := List.mem_of_getElem? (i := 9) (by decide +kernel)
theorem ck_S_init : CalK k_S_init 0 := ⟨TG_at 1 (by decide +kernel) (by decide +kernel), TG_at 19 (by decide +kernel) (by decide +kernel), by decide +kernel, ⟨by decide +kernel, by decide +kernel⟩, by decide +kernel, by decide⟩
theorem ik_S_init : InsK k_S_init 0 := ⟨ck_S_init, TG_at 18 (by decide +kernel) (by decide +kernel), by decide⟩
theorem ck_C_init : CalK k_C_init 0 := ⟨TG_at 2 (by decide +kernel) (by decide +kernel), TG_at 27 (by decide +kernel) (by decide +kernel), by decide +kernel, ⟨by decide +kernel, by decide +kernel⟩, by decide +kernel, by decide⟩
theorem ik_C_init : InsK k_C_init 0 := ⟨ck_C_init, TG_at 26 (by decide +kernel) (by decide +kernel), by decide⟩
theorem ck_L_init : CalK k_L_init 1 := ⟨TG_at 3 (by decide +kernel) (by decide +kernel), TG_at 33 (by decide +kernel) (by decide +kernel), by decide +kernel, ⟨by decide +kernel, by decide +kernel⟩, by decide +kernel, by decide⟩
theorem ik_L_init : InsK k_L_init 1 := ⟨ck_L_init, TG_at 32 (by decide +kernel) (by decide +kernel), by decide⟩
theorem ck_JA_fill : CalK k_JA_fill 2 := ⟨TG_at 4 (by decide +kernel) (by decide +kernel), TG_at 48 (by decide +kernel) (by decide +kernel), by decide +kernel, ⟨by decide +kernel, by decide +kernel⟩, by decide +kernel, by decide⟩
theorem sk_JA_fill : StaK k_JA_fill 2 := ⟨ck_JA_fill, TG_at 47 (by decide +kernel) (by decide +kernel), by decide⟩
theorem ck_H_init : CalK k_H_init 1 := ⟨TG_at 5 (by decide +kernel) (by decide +kernel), TG_at 86 (by decide +kernel) (by decide +kernel), by decide +kernel, ⟨by decide +kernel, by decide +kernel⟩, by decide +kernel, by decide⟩
theorem ik_H_init : InsK k_H_init 1 := ⟨ck_H_init, TG_at 85 (by decide +kernel) (by decide +kernel), by decide⟩
theorem ck_P_init : CalK k_P_init 0 := ⟨TG_at 6 (by decide +kernel) (by decide +kernel), TG_at 115 (by decide +kernel) (by decide +kernel), by decide +kernel, ⟨by decide +kernel, by decide +kernel⟩, by decide +kernel, by decide⟩
theorem ik_P_init : InsK k_P_init 0 := ⟨ck_P_init, TG_at 114 (by decide +kernel) (by decide +kernel), by decide⟩
theorem ck_T_init : CalK k_T_init 0 := ⟨TG_at 7 (by decide +kernel) (by decide +kernel), TG_at 142 (by decide +kernel) (by decide +kernel), by decide +kernel, ⟨by decide +kernel, by decide +kernel⟩, by decide +kernel, by decide⟩
theorem ik_T_init : InsK k_T_init 0 := ⟨ck_T_init, TG_at 141 (by decide +kernel) (by decide +kernel), by decide⟩
theorem ck_S_sand : CalK k_S_sand 2 := ⟨TG_at 1 (by decide +kernel) (by decide +kernel), TG_at 191 (by decide +kernel) (by decide +kernel), by decide +kernel, ⟨by decide +kernel, by decide +kernel⟩, by decide +kernel, by decide⟩
theorem ik_S_sand : InsK k_S_sand 2 := ⟨ck_S_sand, TG_at 189 (by decide +kernel) (by decide +kernel), by decide⟩
theorem vk_S_sand : VirK k_S_sand 2 := ⟨ik_S_sand, TG_at 190 (by decide +kernel) (by decide +kernel)⟩
theorem ck_S_isYard : CalK k_S_isYard 1 := ⟨TG_at 1 (by decide +kernel) (by decide +kernel), TG_at 194 (by decide +kernel) (by decide +kernel), by decide +kernel, ⟨by decide +kernel, by decide +kernel⟩, by decide +kernel, by decide⟩
theorem sk_S_isYard : StaK k_S_isYard 1 := ⟨ck_S_isYard, TG_at 193 (by decide +kernel) (by decide +kernel), by decide⟩
theorem ck_S_finding : CalK k_S_finding 1 := ⟨TG_at 1 (by decide +kernel) (by decide +kernel), TG_at 198 (by decide +kernel) (by decide +kernel), by decide +kernel, ⟨by decide +kernel, by decide +kernel⟩, by decide +kernel, by decide⟩
theorem ik_S_finding : InsK k_S_finding 1 := ⟨ck_S_finding, TG_at 197 (by decide +kernel) (by decide +kernel), by decide⟩
theorem vk_S_finding : VirK k_S_finding 1 := ⟨ik_S_finding, TG_sel 0 (by decide +kernel) (by decide +kernel)⟩
theorem ck_S_yardOf : CalK k_S_yardOf 2 := ⟨TG_at 1 (by decide +kernel) (by decide +kernel), TG_at 203 (by decide +kernel) (by decide +kernel), by decide +kernel, ⟨by decide +kernel, by decide +kernel⟩, by decide +kernel, by decide⟩
theorem ik_S_yardOf : InsK k_S_yardOf 2 := ⟨ck_S_yardOf, TG_at 201 (by decide +kernel) (by decide +kernel), by decide⟩
theorem vk_S_yardOf : VirK k_S_yardOf 2 := ⟨ik_S_yardOf, TG_at 202 (by decide +kernel) (by decide +kernel)⟩
theorem ck_L_gripOf : CalK k_L_gripOf 2 := ⟨TG_at 3 (by decide +kernel) (by decide +kernel), TG_at 207 (by decide +kernel) (by decide +kernel), by decide +kernel, ⟨by decide +kernel, by decide +kernel⟩, by decide +kernel, by decide⟩
theorem ik_L_gripOf : InsK k_L_gripOf 2 := ⟨ck_L_gripOf, TG_at 205 (by decide +kernel) (by decide +kernel), by decide⟩
theorem vk_L_gripOf : VirK k_L_gripOf 2 := ⟨ik_L_gripOf, TG_at 206 (by decide +kernel) (by decide +kernel)⟩
theorem ck_L_hour : CalK k_L_hour 0 := ⟨TG_at 3 (by decide +kernel) (by decide +kernel), TG_at 211 (by decide +kernel) (by decide +kernel), by decide +kernel, ⟨by decide +kernel, by decide +kernel⟩, by decide +kernel, by decide⟩
theorem ik_L_hour : InsK k_L_hour 0 := ⟨ck_L_hour, TG_at 209 (by decide +kernel) (by decide +kernel), by decide⟩
theorem vk_L_hour : VirK k_L_hour 0 := ⟨ik_L_hour, TG_at 210 (by decide +kernel) (by decide +kernel)⟩
theorem ck_S_set : CalK k_S_set 2 := ⟨TG_at 1 (by decide +kernel) (by decide +kernel), TG_at 215 (by decide +kernel) (by decide +kernel), by decide +kernel, ⟨by decide +kernel, by decide +kernel⟩, by decide +kernel, by decide⟩
theorem ik_S_set : InsK k_S_set 2 := ⟨ck_S_set, TG_at 213 (by decide +kernel) (by decide +kernel), by decide⟩
theorem vk_S_set : VirK k_S_set 2 := ⟨ik_S_set, TG_at 214 (by decide +kernel) (by decide +kernel)⟩
theorem ck_S_leastOf : CalK k_S_leastOf 1 := ⟨TG_at 1 (by decide +kernel) (by decide +kernel), TG_at 218 (by decide +kernel) (by decide +kernel), by decide +kernel, ⟨by decide +kernel, by decide +kernel⟩, by decide +kernel, by decide⟩
theorem sk_S_leastOf : StaK k_S_leastOf 1 := ⟨ck_S_leastOf, TG_at 217 (by decide +kernel) (by decide +kernel), by decide⟩
theorem ck_S_mostOf : CalK k_S_mostOf 1 := ⟨TG_at 1 (by decide +kernel) (by decide +kernel), TG_at 221 (by decide +kernel) (by decide +kernel), by decide +kernel, ⟨by decide +kernel, by decide +kernel⟩, by decide +kernel, by decide⟩
theorem sk_S_mostOf : StaK k_S_mostOf 1 := ⟨ck_S_mostOf, TG_at 220 (by decide +kernel) (by decide +kernel), by decide⟩
theorem ck_S_now : CalK k_S_now 1 := ⟨TG_at 1 (by decide +kernel) (by decide +kernel), TG_at 225 (by decide +kernel) (by decide +kernel), by decide +kernel, ⟨by decide +kernel, by decide +kernel⟩, by decide +kernel, by decide⟩
theorem ik_S_now : InsK k_S_now 1 := ⟨ck_S_now, TG_at 223 (by decide +kernel) (by decide +kernel), by decide⟩
theorem vk_S_now : VirK k_S_now 1 := ⟨ik_S_now, TG_at 224 (by decide +kernel) (by decide +kernel)⟩
theorem ck_L_heat : CalK k_L_heat 0 := ⟨TG_at 3 (by decide +kernel) (by decide +kernel), TG_at 230 (by decide +kernel) (by decide +kernel), by decide +kernel, ⟨by decide +kernel, by decide +kernel⟩, by decide +kernel, by decide⟩
theorem ik_L_heat : InsK k_L_heat 0 := ⟨ck_L_heat, TG_at 228 (by decide +kernel) (by decide +kernel), by decide⟩
theorem vk_L_heat : VirK k_L_heat 0 := ⟨ik_L_heat, TG_at 229 (by decide +kernel) (by decide +kernel)⟩
theorem ck_L_weight : CalK k_L_weight 0 := ⟨TG_at 3 (by decide +kernel) (by decide +kernel), TG_at 234 (by decide +kernel) (by decide +kernel), by decide +kernel, ⟨by decide +kernel, by decide +kernel⟩, by decide +kernel, by decide⟩
theorem ik_L_weight : InsK k_L_weight 0 := ⟨ck_L_weight, TG_at 232 (by decide +kernel) (by decide +kernel), by decide⟩
theorem vk_L_weight : VirK k_L_weight 0 := ⟨ik_L_weight, TG_at 233 (by decide +kernel) (by decide +kernel)⟩
theorem ck_S_weightOf : CalK k_S_weightOf 2 := ⟨TG_at 1 (by decide +kernel) (by decide +kernel), TG_at 237 (by decide +kernel) (by decide +kernel), by decide +kernel, ⟨by decide +kernel, by decide +kernel⟩, by decide +kernel, by decide⟩
theorem sk_S_weightOf : StaK k_S_weightOf 2 := ⟨ck_S_weightOf, TG_at 236 (by decide +kernel) (by decide +kernel), by decide⟩
theorem ck_L_isOut : CalK k_L_isOut 0 := ⟨TG_at 3 (by decide +kernel) (by decide +kernel), TG_at 241 (by decide +kernel) (by decide +kernel), by decide +kernel, ⟨by decide +kernel, by decide +kernel⟩, by decide +kernel, by decide⟩
theorem ik_L_isOut : InsK k_L_isOut 0 := ⟨ck_L_isOut, TG_at 239 (by decide +kernel) (by decide +kernel), by decide⟩
theorem vk_L_isOut : VirK k_L_isOut 0 := ⟨ik_L_isOut, TG_at 240 (by decide +kernel) (by decide +kernel)⟩
theorem ck_S_soft : CalK k_S_soft 2 := ⟨TG_at 1 (by decide +kernel) (by decide +kernel), TG_at 246 (by decide +kernel) (by decide +kernel), by decide +kernel, ⟨by decide +kernel, by decide +kernel⟩, by decide +kernel, by decide⟩
theorem ik_S_soft : InsK k_S_soft 2 := ⟨ck_S_soft, TG_at 244 (by decide +kernel) (by decide +kernel), by decide⟩
theorem vk_S_soft : VirK k_S_soft 2 := ⟨ik_S_soft, TG_at 245 (by decide +kernel) (by decide +kernel)⟩
theorem ck_S_wind : CalK k_S_wind 1 := ⟨TG_at 1 (by decide +kernel) (by decide +kernel), TG_at 250 (by decide +kernel) (by decide +kernel), by decide +kernel, ⟨by decide +kernel, by decide +kernel⟩, by decide +kernel, by decide⟩
theorem ik_S_wind : InsK k_S_wind 1 := ⟨ck_S_wind, TG_at 248 (by decide +kernel) (by decide +kernel), by decide⟩
theorem vk_S_wind : VirK k_S_wind 1 := ⟨ik_S_wind, TG_at 249 (by decide +kernel) (by decide +kernel)⟩
theorem ck_C_draw : CalK k_C_draw 0 := ⟨TG_at 2 (by decide +kernel) (by decide +kernel), TG_at 254 (by decide +kernel) (by decide +kernel), by decide +kernel, ⟨by decide +kernel, by decide +kernel⟩, by decide +kernel, by decide⟩
theorem ik_C_draw : InsK k_C_draw 0 := ⟨ck_C_draw, TG_at 252 (by decide +kernel) (by decide +kernel), by decide⟩
theorem vk_C_draw : VirK k_C_draw 0 := ⟨ik_C_draw, TG_at 253 (by decide +kernel) (by decide +kernel)⟩
theorem ck_C_firmInAll : CalK k_C_firmInAll 0 := ⟨TG_at 2 (by decide +kernel) (by decide +kernel), TG_at 259 (by decide +kernel) (by decide +kernel), by decide +kernel, ⟨by decide +kernel, by decide +kernel⟩, by decide +kernel, by decide⟩
theorem ik_C_firmInAll : InsK k_C_firmInAll 0 := ⟨ck_C_firmInAll, TG_at 257 (by decide +kernel) (by decide +kernel), by decide⟩
theorem vk_C_firmInAll : VirK k_C_firmInAll 0 := ⟨ik_C_firmInAll, TG_at 258 (by decide +kernel) (by decide +kernel)⟩
theorem ck_S_effort : CalK k_S_effort 2 := ⟨TG_at 1 (by decide +kernel) (by decide +kernel), TG_at 263 (by decide +kernel) (by decide +kernel), by decide +kernel, ⟨by decide +kernel, by decide +kernel⟩, by decide +kernel, by decide⟩
theorem ik_S_effort : InsK k_S_effort 2 := ⟨ck_S_effort, TG_at 261 (by decide +kernel) (by decide +kernel), by decide⟩
theorem vk_S_effort : VirK k_S_effort 2 := ⟨ik_S_effort, TG_at 262 (by decide +kernel) (by decide +kernel)⟩
theorem ck_S_isSlot : CalK k_S_isSlot 1 := ⟨TG_at 1 (by decide +kernel) (by decide +kernel), TG_at 266 (by decide +kernel) (by decide +kernel), by decide +kernel, ⟨by decide +kernel, by decide +kernel⟩, by decide +kernel, by decide⟩
theorem sk_S_isSlot : StaK k_S_isSlot 1 := ⟨ck_S_isSlot, TG_at 265 (by decide +kernel) (by decide +kernel), by decide⟩
theorem ck_S_effortOf : CalK k_S_effortOf 2 := ⟨TG_at 1 (by decide +kernel) (by decide +kernel), TG_at 270 (by decide +kernel) (by decide +kernel), by decide +kernel, ⟨by decide +kernel, by decide +kernel⟩, by decide +kernel, by decide⟩
theorem ik_S_effortOf : InsK k_S_effortOf 2 := ⟨ck_S_effortOf, TG_at 268 (by decide +kernel) (by decide +kernel), by decide⟩
theorem vk_S_effortOf : VirK k_S_effortOf 2 := ⟨ik_S_effortOf, TG_at 269 (by decide +kernel) (by decide +kernel)⟩
theorem ck_L_minutesOf : CalK k_L_minutesOf 1 := ⟨TG_at 3 (by decide +kernel) (by decide +kernel), TG_at 274 (by decide +kernel) (by decide +kernel), by decide +kernel, ⟨by decide +kernel, by decide +kernel⟩, by decide +kernel, by decide⟩
theorem ik_L_minutesOf : InsK k_L_minutesOf 1 := ⟨ck_L_minutesOf, TG_at 272 (by decide +kernel) (by decide +kernel), by decide⟩
theorem vk_L_minutesOf : VirK k_L_minutesOf 1 := ⟨ik_L_minutesOf, TG_at 273 (by decide +kernel) (by decide +kernel)⟩
theorem ck_S_workOf : CalK k_S_workOf 1 := ⟨TG_at 1 (by decide +kernel) (by decide +kernel), TG_at 277 (by decide +kernel) (by decide +kernel), by decide +kernel, ⟨by decide +kernel, by decide +kernel⟩, by decide +kernel, by decide⟩
theorem sk_S_workOf : StaK k_S_workOf 1 := ⟨ck_S_workOf, TG_at 276 (by decide +kernel) (by decide +kernel), by decide⟩
theorem ck_L_drinkOf : CalK k_L_drinkOf 1 := ⟨TG_at 3 (by decide +kernel) (by decide +kernel), TG_at 281 (by decide +kernel) (by decide +kernel), by decide +kernel, ⟨by decide +kernel, by decide +kernel⟩, by decide +kernel, by decide⟩
theorem ik_L_drinkOf : InsK k_L_drinkOf 1 := ⟨ck_L_drinkOf, TG_at 279 (by decide +kernel) (by decide +kernel), by decide⟩
theorem vk_L_drinkOf : VirK k_L_drinkOf 1 := ⟨ik_L_drinkOf, TG_at 280 (by decide +kernel) (by decide +kernel)⟩
theorem ck_S_go : CalK k_S_go 1 := ⟨TG_at 1 (by decide +kernel) (by decide +kernel), TG_at 288 (by decide +kernel) (by decide +kernel), by decide +kernel, ⟨by decide +kernel, by decide +kernel⟩, by decide +kernel, by decide⟩
theorem ik_S_go : InsK k_S_go 1 := ⟨ck_S_go, TG_at 286 (by decide +kernel) (by decide +kernel), by decide⟩
theorem vk_S_go : VirK k_S_go 1 := ⟨ik_S_go, TG_at 287 (by decide +kernel) (by decide +kernel)⟩
theorem ck_L_carriesOut : CalK k_L_carriesOut 1 := ⟨TG_at 3 (by decide +kernel) (by decide +kernel), TG_at 292 (by decide +kernel) (by decide +kernel), by decide +kernel, ⟨by decide +kernel, by decide +kernel⟩, by decide +kernel, by decide⟩
theorem ik_L_carriesOut : InsK k_L_carriesOut 1 := ⟨ck_L_carriesOut, TG_at 290 (by decide +kernel) (by decide +kernel), by decide⟩
theorem vk_L_carriesOut : VirK k_L_carriesOut 1 := ⟨ik_L_carriesOut, TG_at 291 (by decide +kernel) (by decide +kernel)⟩
theorem ck_S_isOfKind : CalK k_S_isOfKind 2 := ⟨TG_at 1 (by decide +kernel) (by decide +kernel), TG_at 297 (by decide +kernel) (by decide +kernel), by decide +kernel, ⟨by decide +kernel, by decide +kernel⟩, by decide +kernel, by decide⟩
theorem sk_S_isOfKind : StaK k_S_isOfKind 2 := ⟨ck_S_isOfKind, TG_at 296 (by decide +kernel) (by decide +kernel), by decide⟩
theorem ck_S_kindAbove : CalK k_S_kindAbove 1 := ⟨TG_at 1 (by decide +kernel) (by decide +kernel), TG_at 300 (by decide +kernel) (by decide +kernel), by decide +kernel, ⟨by decide +kernel, by decide +kernel⟩, by decide +kernel, by decide⟩
theorem sk_S_kindAbove : StaK k_S_kindAbove 1 := ⟨ck_S_kindAbove, TG_at 299 (by decide +kernel) (by decide +kernel), by decide⟩
theorem ck_L_drive : CalK k_L_drive 1 := ⟨TG_at 3 (by decide +kernel) (by decide +kernel), TG_at 310 (by decide +kernel) (by decide +kernel), by decide +kernel, ⟨by decide +kernel, by decide +kernel⟩, by decide +kernel, by decide⟩
theorem ik_L_drive : InsK k_L_drive 1 := ⟨ck_L_drive, TG_at 309 (by decide +kernel) (by decide +kernel), by decide⟩
theorem vk_L_drive : VirK k_L_drive 1 := ⟨ik_L_drive, TG_sel 1 (by decide +kernel) (by decide +kernel)⟩
theorem ck_L_push : CalK k_L_push 3 := ⟨TG_at 3 (by decide +kernel) (by decide +kernel), TG_at 314 (by decide +kernel) (by decide +kernel), by decide +kernel, ⟨by decide +kernel, by decide +kernel⟩, by decide +kernel, by decide⟩
theorem ik_L_push : InsK k_L_push 3 := ⟨ck_L_push, TG_at 313 (by decide +kernel) (by decide +kernel), by decide⟩
theorem vk_L_push : VirK k_L_push 3 := ⟨ik_L_push, TG_sel 2 (by decide +kernel) (by decide +kernel)⟩
theorem ck_S_gives : CalK k_S_gives 2 := ⟨TG_at 1 (by decide +kernel) (by decide +kernel), TG_at 320 (by decide +kernel) (by decide +kernel), by decide +kernel, ⟨by decide +kernel, by decide +kernel⟩, by decide +kernel, by decide⟩
theorem ik_S_gives : InsK k_S_gives 2 := ⟨ck_S_gives, TG_at 318 (by decide +kernel) (by decide +kernel), by decide⟩
theorem vk_S_gives : VirK k_S_gives 2 := ⟨ik_S_gives, TG_at 319 (by decide +kernel) (by decide +kernel)⟩
theorem ck_L_become : CalK k_L_become 1 := ⟨TG_at 3 (by decide +kernel) (by decide +kernel), TG_at 324 (by decide +kernel) (by decide +kernel), by decide +kernel, ⟨by decide +kernel, by decide +kernel⟩, by decide +kernel, by decide⟩
theorem ik_L_become : InsK k_L_become 1 := ⟨ck_L_become, TG_at 322 (by decide +kernel) (by decide +kernel), by decide⟩
theorem vk_L_become : VirK k_L_become 1 := ⟨ik_L_become, TG_at 323 (by decide +kernel) (by decide +kernel)⟩
theorem ck_L_since : CalK k_L_since 2 := ⟨TG_at 3 (by decide +kernel) (by decide +kernel), TG_at 331 (by decide +kernel) (by decide +kernel), by decide +kernel, ⟨by decide +kernel, by decide +kernel⟩, by decide +kernel, by decide⟩
theorem ik_L_since : InsK k_L_since 2 := ⟨ck_L_since, TG_at 329 (by decide +kernel) (by decide +kernel), by decide⟩
theorem vk_L_since : VirK k_L_since 2 := ⟨ik_L_since, TG_at 330 (by decide +kernel) (by decide +kernel)⟩
theorem ck_S_lasts : CalK k_S_lasts 1 := ⟨TG_at 1 (by decide +kernel) (by decide +kernel), TG_at 335 (by decide +kernel) (by decide +kernel), by decide +kernel, ⟨by decide +kernel, by decide +kernel⟩, by decide +kernel, by decide⟩
theorem ik_S_lasts : InsK k_S_lasts 1 := ⟨ck_S_lasts, TG_at 333 (by decide +kernel) (by decide +kernel), by decide⟩
theorem vk_S_lasts : VirK k_S_lasts 1 := ⟨ik_S_lasts, TG_at 334 (by decide +kernel) (by decide +kernel)⟩
theorem ck_S_out : CalK k_S_out 1 := ⟨TG_at 1 (by decide +kernel) (by decide +kernel), TG_at 339 (by decide +kernel) (by decide +kernel), by decide +kernel, ⟨by decide +kernel, by decide +kernel⟩, by decide +kernel, by decide⟩
theorem ik_S_out : InsK k_S_out 1 := ⟨ck_S_out, TG_at 337 (by decide +kernel) (by decide +kernel), by decide⟩
theorem vk_S_out : VirK k_S_out 1 := ⟨ik_S_out, TG_at 338 (by decide +kernel) (by decide +kernel)⟩
theorem ck_S_timesTillOut : CalK k_S_timesTillOut 2 := ⟨TG_at 1 (by decide +kernel) (by decide +kernel), TG_at 343 (by decide +kernel) (by decide +kernel), by decide +kernel, ⟨by decide +kernel, by decide +kernel⟩, by decide +kernel, by decide⟩
theorem ik_S_timesTillOut : InsK k_S_timesTillOut 2 := ⟨ck_S_timesTillOut, TG_at 342 (by decide +kernel) (by decide +kernel), by decide⟩
theorem vk_S_timesTillOut : VirK k_S_timesTillOut 2 := ⟨ik_S_timesTillOut, TG_sel 3 (by decide +kernel) (by decide +kernel)⟩
theorem ck_S_when : CalK k_S_when 1 := ⟨TG_at 1 (by decide +kernel) (by decide +kernel), TG_at 347 (by decide +kernel) (by decide +kernel), by decide +kernel, ⟨by decide +kernel, by decide +kernel⟩, by decide +kernel, by decide⟩
theorem ik_S_when : InsK k_S_when 1 := ⟨ck_S_when, TG_at 345 (by decide +kernel) (by decide +kernel), by decide⟩
theorem vk_S_when : VirK k_S_when 1 := ⟨ik_S_when, TG_at 346 (by decide +kernel) (by decide +kernel)⟩
theorem ck_L_passHours : CalK k_L_passHours 1 := ⟨TG_at 3 (by decide +kernel) (by decide +kernel), TG_at 351 (by decide +kernel) (by decide +kernel), by decide +kernel, ⟨by decide +kernel, by decide +kernel⟩, by decide +kernel, by decide⟩
theorem ik_L_passHours : InsK k_L_passHours 1 := ⟨ck_L_passHours, TG_at 349 (by decide +kernel) (by decide +kernel), by decide⟩
theorem vk_L_passHours : VirK k_L_passHours 1 := ⟨ik_L_passHours, TG_at 350 (by decide +kernel) (by decide +kernel)⟩
theorem ck_S_feed : CalK k_S_feed 2 := ⟨TG_at 1 (by decide +kernel) (by decide +kernel), TG_at 355 (by decide +kernel) (by decide +kernel), by decide +kernel, ⟨by decide +kernel, by decide +kernel⟩, by decide +kernel, by decide⟩
theorem ik_S_feed : InsK k_S_feed 2 := ⟨ck_S_feed, TG_at 353 (by decide +kernel) (by decide +kernel), by decide⟩
theorem vk_S_feed : VirK k_S_feed 2 := ⟨ik_S_feed, TG_at 354 (by decide +kernel) (by decide +kernel)⟩
theorem ck_P_append : CalK k_P_append 1 := ⟨TG_at 6 (by decide +kernel) (by decide +kernel), TG_at 359 (by decide +kernel) (by decide +kernel), by decide +kernel, ⟨by decide +kernel, by decide +kernel⟩, by decide +kernel, by decide⟩
theorem ik_P_append : InsK k_P_append 1 := ⟨ck_P_append, TG_at 357 (by decide +kernel) (by decide +kernel), by decide⟩
theorem vk_P_append : VirK k_P_append 1 := ⟨ik_P_append, TG_at 358 (by decide +kernel) (by decide +kernel)⟩
theorem ck_S_wipe : CalK k_S_wipe 0 := ⟨TG_at 1 (by decide +kernel) (by decide +kernel), TG_at 363 (by decide +kernel) (by decide +kernel), by decide +kernel, ⟨by decide +kernel, by decide +kernel⟩, by decide +kernel, by decide⟩
theorem ik_S_wipe : InsK k_S_wipe 0 := ⟨ck_S_wipe, TG_at 361 (by decide +kernel) (by decide +kernel), by decide⟩
theorem vk_S_wipe : VirK k_S_wipe 0 := ⟨ik_S_wipe, TG_at 362 (by decide +kernel) (by decide +kernel)⟩
theorem ck_S_text : CalK k_S_text 0 := ⟨TG_at 1 (by decide +kernel) (by decide +kernel), TG_at 367 (by decide +kernel) (by decide +kernel), by decide +kernel, ⟨by decide +kernel, by decide +kernel⟩, by decide +kernel, by decide⟩
theorem ik_S_text : InsK k_S_text 0 := ⟨ck_S_text, TG_at 365 (by decide +kernel) (by decide +kernel), by decide⟩
theorem vk_S_text : VirK k_S_text 0 := ⟨ik_S_text, TG_at 366 (by decide +kernel) (by decide +kernel)⟩
theorem ck_C_become : CalK k_C_become 1 := ⟨TG_at 2 (by decide +kernel) (by decide +kernel), TG_at 371 (by decide +kernel) (by decide +kernel), by decide +kernel, ⟨by decide +kernel, by decide +kernel⟩, by decide +kernel, by decide⟩
theorem ik_C_become : InsK k_C_become 1 := ⟨ck_C_become, TG_at 369 (by decide +kernel) (by decide +kernel), by decide⟩
theorem vk_C_become : VirK k_C_become 1 := ⟨ik_C_become, TG_at 370 (by decide +kernel) (by decide +kernel)⟩
theorem ck_P_readInto : CalK k_P_readInto 1 := ⟨TG_at 6 (by decide +kernel) (by decide +kernel), TG_at 377 (by decide +kernel) (by decide +kernel), by decide +kernel, ⟨by decide +kernel, by decide +kernel⟩, by decide +kernel, by decide⟩
theorem ik_P_readInto : InsK k_P_readInto 1 := ⟨ck_P_readInto, TG_at 375 (by decide +kernel) (by decide +kernel), by decide⟩
theorem vk_P_readInto : VirK k_P_readInto 1 := ⟨ik_P_readInto, TG_at 376 (by decide +kernel) (by decide +kernel)⟩
theorem ck_P_step : CalK k_P_step 0 := ⟨TG_at 6 (by decide +kernel) (by decide +kernel), TG_at 381 (by decide +kernel) (by decide +kernel), by decide +kernel, ⟨by decide +kernel, by decide +kernel⟩, by decide +kernel, by decide⟩
theorem ik_P_step : InsK k_P_step 0 := ⟨ck_P_step, TG_at 380 (by decide +kernel) (by decide +kernel), by decide⟩
theorem vk_P_step : VirK k_P_step 0 := ⟨ik_P_step, TG_sel 4 (by decide +kernel) (by decide +kernel)⟩
theorem ck_P_endOfRun : CalK k_P_endOfRun 3 := ⟨TG_at 6 (by decide +kernel) (by decide +kernel), TG_at 385 (by decide +kernel) (by decide +kernel), by decide +kernel, ⟨by decide +kernel, by decide +kernel⟩, by decide +kernel, by decide⟩
theorem ik_P_endOfRun : InsK k_P_endOfRun 3 := ⟨ck_P_endOfRun, TG_at 384 (by decide +kernel) (by decide +kernel), by decide⟩
theorem vk_P_endOfRun : VirK k_P_endOfRun 3 := ⟨ik_P_endOfRun, TG_sel 5 (by decide +kernel) (by decide +kernel)⟩
theorem ck_P_numberRead : CalK k_P_numberRead 0 := ⟨TG_at 6 (by decide +kernel) (by decide +kernel), TG_at 390 (by decide +kernel) (by decide +kernel), by decide +kernel, ⟨by decide +kernel, by decide +kernel⟩, by decide +kernel, by decide⟩
theorem ik_P_numberRead : InsK k_P_numberRead 0 := ⟨ck_P_numberRead, TG_at 389 (by decide +kernel) (by decide +kernel), by decide⟩
theorem vk_P_numberRead : VirK k_P_numberRead 0 := ⟨ik_P_numberRead, TG_sel 6 (by decide +kernel) (by decide +kernel)⟩
theorem ck_P_readItem : CalK k_P_readItem 1 := ⟨TG_at 6 (by decide +kernel) (by decide +kernel), TG_at 395 (by decide +kernel) (by decide +kernel), by decide +kernel, ⟨by decide +kernel, by decide +kernel⟩, by decide +kernel, by decide⟩
theorem ik_P_readItem : InsK k_P_readItem 1 := ⟨ck_P_readItem, TG_at 394 (by decide +kernel) (by decide +kernel), by decide⟩
theorem vk_P_readItem : VirK k_P_readItem 1 := ⟨ik_P_readItem, TG_sel 7 (by decide +kernel) (by decide +kernel)⟩
theorem ck_P_wordRead : CalK k_P_wordRead 0 := ⟨TG_at 6 (by decide +kernel) (by decide +kernel), TG_at 399 (by decide +kernel) (by decide +kernel), by decide +kernel, ⟨by decide +kernel, by decide +kernel⟩, by decide +kernel, by decide⟩
theorem ik_P_wordRead : InsK k_P_wordRead 0 := ⟨ck_P_wordRead, TG_at 398 (by decide +kernel) (by decide +kernel), by decide⟩
theorem vk_P_wordRead : VirK k_P_wordRead 0 := ⟨ik_P_wordRead, TG_sel 8 (by decide +kernel) (by decide +kernel)⟩
theorem ck_P_wordOf : CalK k_P_wordOf 1 := ⟨TG_at 6 (by decide +kernel) (by decide +kernel), TG_at 402 (by decide +kernel) (by decide +kernel), by decide +kernel, ⟨by decide +kernel, by decide +kernel⟩, by decide +kernel, by decide⟩
theorem sk_P_wordOf : StaK k_P_wordOf 1 := ⟨ck_P_wordOf, TG_at 401 (by decide +kernel) (by decide +kernel), by decide⟩
theorem ck_P_spells : CalK k_P_spells 1 := ⟨TG_at 6 (by decide +kernel) (by decide +kernel), TG_at 420 (by decide +kernel) (by decide +kernel), by decide +kernel, ⟨by decide +kernel, by decide +kernel⟩, by decide +kernel, by decide⟩
theorem ik_P_spells : InsK k_P_spells 1 := ⟨ck_P_spells, TG_at 419 (by decide +kernel) (by decide +kernel), by decide⟩
theorem vk_P_spells : VirK k_P_spells 1 := ⟨ik_P_spells, TG_sel 9 (by decide +kernel) (by decide +kernel)⟩
theorem ck_JS_length : CalK k_JS_length 0 := ⟨TG_at 11 (by decide +kernel) (by decide +kernel), TG_at 424 (by decide +kernel) (by decide +kernel), by decide +kernel, ⟨by decide +kernel, by decide +kernel⟩, by decide +kernel, by decide⟩
theorem ik_JS_length : InsK k_JS_length 0 := ⟨ck_JS_length, TG_at 422 (by decide +kernel) (by decide +kernel), by decide⟩
theorem vk_JS_length : VirK k_JS_length 0 := ⟨ik_JS_length, TG_at 423 (by decide +kernel) (by decide +kernel)⟩
theorem ck_JS_coder : CalK k_JS_coder 0 := ⟨TG_at 11 (by decide +kernel) (by decide +kernel), TG_at 428 (by decide +kernel) (by decide +kernel), by decide +kernel, ⟨by decide +kernel, by decide +kernel⟩, by decide +kernel, by decide⟩
theorem ik_JS_coder : InsK k_JS_coder 0 := ⟨ck_JS_coder, TG_at 426 (by decide +kernel) (by decide +kernel), by decide⟩
theorem vk_JS_coder : VirK k_JS_coder 0 := ⟨ik_JS_coder, TG_at 427 (by decide +kernel) (by decide +kernel)⟩
theorem ck_JS_charAt : CalK k_JS_charAt 1 := ⟨TG_at 11 (by decide +kernel) (by decide +kernel), TG_at 434 (by decide +kernel) (by decide +kernel), by decide +kernel, ⟨by decide +kernel, by decide +kernel⟩, by decide +kernel, by decide⟩
theorem ik_JS_charAt : InsK k_JS_charAt 1 := ⟨ck_JS_charAt, TG_at 432 (by decide +kernel) (by decide +kernel), by decide⟩
theorem vk_JS_charAt : VirK k_JS_charAt 1 := ⟨ik_JS_charAt, TG_at 433 (by decide +kernel) (by decide +kernel)⟩
theorem ck_JS_isLatin1 : CalK k_JS_isLatin1 0 := ⟨TG_at 11 (by decide +kernel) (by decide +kernel), TG_at 438 (by decide +kernel) (by decide +kernel), by decide +kernel, ⟨by decide +kernel, by decide +kernel⟩, by decide +kernel, by decide⟩
theorem ik_JS_isLatin1 : InsK k_JS_isLatin1 0 := ⟨ck_JS_isLatin1, TG_at 436 (by decide +kernel) (by decide +kernel), by decide⟩
theorem vk_JS_isLatin1 : VirK k_JS_isLatin1 0 := ⟨ik_JS_isLatin1, TG_at 437 (by decide +kernel) (by decide +kernel)⟩
theorem ck_JL_charAt : CalK k_JL_charAt 2 := ⟨TG_at 12 (by decide +kernel) (by decide +kernel), TG_at 441 (by decide +kernel) (by decide +kernel), by decide +kernel, ⟨by decide +kernel, by decide +kernel⟩, by decide +kernel, by decide⟩
theorem sk_JL_charAt : StaK k_JL_charAt 2 := ⟨ck_JL_charAt, TG_at 440 (by decide +kernel) (by decide +kernel), by decide⟩
theorem ck_JS_checkIndex : CalK k_JS_checkIndex 2 := ⟨TG_at 11 (by decide +kernel) (by decide +kernel), TG_at 444 (by decide +kernel) (by decide +kernel), by decide +kernel, ⟨by decide +kernel, by decide +kernel⟩, by decide +kernel, by decide⟩
theorem sk_JS_checkIndex : StaK k_JS_checkIndex 2 := ⟨ck_JS_checkIndex, TG_at 443 (by decide +kernel) (by decide +kernel), by decide⟩
theorem ck_JP_checkIndex : CalK k_JP_checkIndex 3 := ⟨TG_at 13 (by decide +kernel) (by decide +kernel), TG_at 449 (by decide +kernel) (by decide +kernel), by decide +kernel, ⟨by decide +kernel, by decide +kernel⟩, by decide +kernel, by decide⟩
theorem sk_JP_checkIndex : StaK k_JP_checkIndex 3 := ⟨ck_JP_checkIndex, TG_at 448 (by decide +kernel) (by decide +kernel), by decide⟩
theorem ck_JU_charAt : CalK k_JU_charAt 2 := ⟨TG_at 14 (by decide +kernel) (by decide +kernel), TG_at 452 (by decide +kernel) (by decide +kernel), by decide +kernel, ⟨by decide +kernel, by decide +kernel⟩, by decide +kernel, by decide⟩
theorem sk_JU_charAt : StaK k_JU_charAt 2 := ⟨ck_JU_charAt, TG_at 451 (by decide +kernel) (by decide +kernel), by decide⟩
theorem ck_JU_checkIndex : CalK k_JU_checkIndex 2 := ⟨TG_at 14 (by decide +kernel) (by decide +kernel), TG_at 455 (by decide +kernel) (by decide +kernel), by decide +kernel, ⟨by decide +kernel, by decide +kernel⟩, by decide +kernel, by decide⟩
theorem sk_JU_checkIndex : StaK k_JU_checkIndex 2 := ⟨ck_JU_checkIndex, TG_at 454 (by decide +kernel) (by decide +kernel), by decide⟩
theorem ck_JU_length : CalK k_JU_length 1 := ⟨TG_at 14 (by decide +kernel) (by decide +kernel), TG_at 458 (by decide +kernel) (by decide +kernel), by decide +kernel, ⟨by decide +kernel, by decide +kernel⟩, by decide +kernel, by decide⟩
theorem sk_JU_length : StaK k_JU_length 1 := ⟨ck_JU_length, TG_at 457 (by decide +kernel) (by decide +kernel), by decide⟩
theorem ck_JU_getChar : CalK k_JU_getChar 2 := ⟨TG_at 14 (by decide +kernel) (by decide +kernel), TG_at 462 (by decide +kernel) (by decide +kernel), by decide +kernel, ⟨by decide +kernel, by decide +kernel⟩, by decide +kernel, by decide⟩
theorem sk_JU_getChar : StaK k_JU_getChar 2 := ⟨ck_JU_getChar, TG_at 461 (by decide +kernel) (by decide +kernel), by decide⟩
theorem ck_P_readEfforts : CalK k_P_readEfforts 2 := ⟨TG_at 6 (by decide +kernel) (by decide +kernel), TG_at 472 (by decide +kernel) (by decide +kernel), by decide +kernel, ⟨by decide +kernel, by decide +kernel⟩, by decide +kernel, by decide⟩
theorem ik_P_readEfforts : InsK k_P_readEfforts 2 := ⟨ck_P_readEfforts, TG_at 471 (by decide +kernel) (by decide +kernel), by decide⟩
theorem vk_P_readEfforts : VirK k_P_readEfforts 2 := ⟨ik_P_readEfforts, TG_sel 10 (by decide +kernel) (by decide +kernel)⟩
theorem ck_C_hasRoomFor : CalK k_C_hasRoomFor 1 := ⟨TG_at 2 (by decide +kernel) (by decide +kernel), TG_at 476 (by decide +kernel) (by decide +kernel), by decide +kernel, ⟨by decide +kernel, by decide +kernel⟩, by decide +kernel, by decide⟩
theorem ik_C_hasRoomFor : InsK k_C_hasRoomFor 1 := ⟨ck_C_hasRoomFor, TG_at 474 (by decide +kernel) (by decide +kernel), by decide⟩
theorem vk_C_hasRoomFor : VirK k_C_hasRoomFor 1 := ⟨ik_C_hasRoomFor, TG_at 475 (by decide +kernel) (by decide +kernel)⟩
theorem ck_C_addToPlan : CalK k_C_addToPlan 2 := ⟨TG_at 2 (by decide +kernel) (by decide +kernel), TG_at 480 (by decide +kernel) (by decide +kernel), by decide +kernel, ⟨by decide +kernel, by decide +kernel⟩, by decide +kernel, by decide⟩
theorem ik_C_addToPlan : InsK k_C_addToPlan 2 := ⟨ck_C_addToPlan, TG_at 478 (by decide +kernel) (by decide +kernel), by decide⟩
theorem vk_C_addToPlan : VirK k_C_addToPlan 2 := ⟨ik_C_addToPlan, TG_at 479 (by decide +kernel) (by decide +kernel)⟩
theorem ck_P_readSand : CalK k_P_readSand 1 := ⟨TG_at 6 (by decide +kernel) (by decide +kernel), TG_at 484 (by decide +kernel) (by decide +kernel), by decide +kernel, ⟨by decide +kernel, by decide +kernel⟩, by decide +kernel, by decide⟩
theorem ik_P_readSand : InsK k_P_readSand 1 := ⟨ck_P_readSand, TG_at 483 (by decide +kernel) (by decide +kernel), by decide⟩
theorem vk_P_readSand : VirK k_P_readSand 1 := ⟨ik_P_readSand, TG_sel 11 (by decide +kernel) (by decide +kernel)⟩
theorem ck_P_readNumber : CalK k_P_readNumber 2 := ⟨TG_at 6 (by decide +kernel) (by decide +kernel), TG_at 489 (by decide +kernel) (by decide +kernel), by decide +kernel, ⟨by decide +kernel, by decide +kernel⟩, by decide +kernel, by decide⟩
theorem ik_P_readNumber : InsK k_P_readNumber 2 := ⟨ck_P_readNumber, TG_at 488 (by decide +kernel) (by decide +kernel), by decide⟩
theorem vk_P_readNumber : VirK k_P_readNumber 2 := ⟨ik_P_readNumber, TG_sel 12 (by decide +kernel) (by decide +kernel)⟩
theorem ck_S_planOf : CalK k_S_planOf 1 := ⟨TG_at 1 (by decide +kernel) (by decide +kernel), TG_at 496 (by decide +kernel) (by decide +kernel), by decide +kernel, ⟨by decide +kernel, by decide +kernel⟩, by decide +kernel, by decide⟩
theorem ik_S_planOf : InsK k_S_planOf 1 := ⟨ck_S_planOf, TG_at 494 (by decide +kernel) (by decide +kernel), by decide⟩
theorem vk_S_planOf : VirK k_S_planOf 1 := ⟨ik_S_planOf, TG_at 495 (by decide +kernel) (by decide +kernel)⟩
theorem ck_S_clear : CalK k_S_clear 0 := ⟨TG_at 1 (by decide +kernel) (by decide +kernel), TG_at 500 (by decide +kernel) (by decide +kernel), by decide +kernel, ⟨by decide +kernel, by decide +kernel⟩, by decide +kernel, by decide⟩
theorem ik_S_clear : InsK k_S_clear 0 := ⟨ck_S_clear, TG_at 498 (by decide +kernel) (by decide +kernel), by decide⟩
theorem vk_S_clear : VirK k_S_clear 0 := ⟨ik_S_clear, TG_at 499 (by decide +kernel) (by decide +kernel)⟩
theorem ck_S_follow : CalK k_S_follow 0 := ⟨TG_at 1 (by decide +kernel) (by decide +kernel), TG_at 504 (by decide +kernel) (by decide +kernel), by decide +kernel, ⟨by decide +kernel, by decide +kernel⟩, by decide +kernel, by decide⟩
theorem ik_S_follow : InsK k_S_follow 0 := ⟨ck_S_follow, TG_at 502 (by decide +kernel) (by decide +kernel), by decide⟩
theorem vk_S_follow : VirK k_S_follow 0 := ⟨ik_S_follow, TG_at 503 (by decide +kernel) (by decide +kernel)⟩
theorem ck_C_planDoneBy : CalK k_C_planDoneBy 1 := ⟨TG_at 2 (by decide +kernel) (by decide +kernel), TG_at 508 (by decide +kernel) (by decide +kernel), by decide +kernel, ⟨by decide +kernel, by decide +kernel⟩, by decide +kernel, by decide⟩
theorem ik_C_planDoneBy : InsK k_C_planDoneBy 1 := ⟨ck_C_planDoneBy, TG_at 506 (by decide +kernel) (by decide +kernel), by decide⟩
theorem vk_C_planDoneBy : VirK k_C_planDoneBy 1 := ⟨ik_C_planDoneBy, TG_at 507 (by decide +kernel) (by decide +kernel)⟩
theorem ck_S_plans : CalK k_S_plans 1 := ⟨TG_at 1 (by decide +kernel) (by decide +kernel), TG_at 513 (by decide +kernel) (by decide +kernel), by decide +kernel, ⟨by decide +kernel, by decide +kernel⟩, by decide +kernel, by decide⟩
theorem ik_S_plans : InsK k_S_plans 1 := ⟨ck_S_plans, TG_at 511 (by decide +kernel) (by decide +kernel), by decide⟩
theorem vk_S_plans : VirK k_S_plans 1 := ⟨ik_S_plans, TG_at 512 (by decide +kernel) (by decide +kernel)⟩
theorem ck_S_best : CalK k_S_best 2 := ⟨TG_at 1 (by decide +kernel) (by decide +kernel), TG_at 517 (by decide +kernel) (by decide +kernel), by decide +kernel, ⟨by decide +kernel, by decide +kernel⟩, by decide +kernel, by decide⟩
theorem ik_S_best : InsK k_S_best 2 := ⟨ck_S_best, TG_at 515 (by decide +kernel) (by decide +kernel), by decide⟩
theorem vk_S_best : VirK k_S_best 2 := ⟨ik_S_best, TG_at 516 (by decide +kernel) (by decide +kernel)⟩
theorem ck_H_begin : CalK k_H_begin 1 := ⟨TG_at 5 (by decide +kernel) (by decide +kernel), TG_at 521 (by decide +kernel) (by decide +kernel), by decide +kernel, ⟨by decide +kernel, by decide +kernel⟩, by decide +kernel, by decide⟩
theorem ik_H_begin : InsK k_H_begin 1 := ⟨ck_H_begin, TG_at 519 (by decide +kernel) (by decide +kernel), by decide⟩
theorem vk_H_begin : VirK k_H_begin 1 := ⟨ik_H_begin, TG_at 520 (by decide +kernel) (by decide +kernel)⟩
theorem ck_H_tryRows : CalK k_H_tryRows 4 := ⟨TG_at 5 (by decide +kernel) (by decide +kernel), TG_at 525 (by decide +kernel) (by decide +kernel), by decide +kernel, ⟨by decide +kernel, by decide +kernel⟩, by decide +kernel, by decide⟩
theorem sk_H_tryRows : StaK k_H_tryRows 4 := ⟨ck_H_tryRows, TG_at 524 (by decide +kernel) (by decide +kernel), by decide⟩
theorem ck_H_weigh : CalK k_H_weigh 2 := ⟨TG_at 5 (by decide +kernel) (by decide +kernel), TG_at 529 (by decide +kernel) (by decide +kernel), by decide +kernel, ⟨by decide +kernel, by decide +kernel⟩, by decide +kernel, by decide⟩
theorem ik_H_weigh : InsK k_H_weigh 2 := ⟨ck_H_weigh, TG_at 528 (by decide +kernel) (by decide +kernel), by decide⟩
theorem vk_H_weigh : VirK k_H_weigh 2 := ⟨ik_H_weigh, TG_sel 13 (by decide +kernel) (by decide +kernel)⟩
theorem ck_S_airFor : CalK k_S_airFor 1 := ⟨TG_at 1 (by decide +kernel) (by decide +kernel), TG_at 536 (by decide +kernel) (by decide +kernel), by decide +kernel, ⟨by decide +kernel, by decide +kernel⟩, by decide +kernel, by decide⟩
theorem ik_S_airFor : InsK k_S_airFor 1 := ⟨ck_S_airFor, TG_at 534 (by decide +kernel) (by decide +kernel), by decide⟩
theorem vk_S_airFor : VirK k_S_airFor 1 := ⟨ik_S_airFor, TG_at 535 (by decide +kernel) (by decide +kernel)⟩
theorem ck_S_sacksFor : CalK k_S_sacksFor 1 := ⟨TG_at 1 (by decide +kernel) (by decide +kernel), TG_at 540 (by decide +kernel) (by decide +kernel), by decide +kernel, ⟨by decide +kernel, by decide +kernel⟩, by decide +kernel, by decide⟩
theorem ik_S_sacksFor : InsK k_S_sacksFor 1 := ⟨ck_S_sacksFor, TG_at 538 (by decide +kernel) (by decide +kernel), by decide⟩
theorem vk_S_sacksFor : VirK k_S_sacksFor 1 := ⟨ik_S_sacksFor, TG_at 539 (by decide +kernel) (by decide +kernel)⟩
theorem ck_S_waterFor : CalK k_S_waterFor 0 := ⟨TG_at 1 (by decide +kernel) (by decide +kernel), TG_at 545 (by decide +kernel) (by decide +kernel), by decide +kernel, ⟨by decide +kernel, by decide +kernel⟩, by decide +kernel, by decide⟩
theorem ik_S_waterFor : InsK k_S_waterFor 0 := ⟨ck_S_waterFor, TG_at 543 (by decide +kernel) (by decide +kernel), by decide⟩
theorem vk_S_waterFor : VirK k_S_waterFor 0 := ⟨ik_S_waterFor, TG_at 544 (by decide +kernel) (by decide +kernel)⟩
theorem ck_S_boardsFor : CalK k_S_boardsFor 1 := ⟨TG_at 1 (by decide +kernel) (by decide +kernel), TG_at 549 (by decide +kernel) (by decide +kernel), by decide +kernel, ⟨by decide +kernel, by decide +kernel⟩, by decide +kernel, by decide⟩
theorem ik_S_boardsFor : InsK k_S_boardsFor 1 := ⟨ck_S_boardsFor, TG_at 547 (by decide +kernel) (by decide +kernel), by decide⟩
theorem vk_S_boardsFor : VirK k_S_boardsFor 1 := ⟨ik_S_boardsFor, TG_at 548 (by decide +kernel) (by decide +kernel)⟩
theorem ck_S_way : CalK k_S_way 0 := ⟨TG_at 1 (by decide +kernel) (by decide +kernel), TG_at 553 (by decide +kernel) (by decide +kernel), by decide +kernel, ⟨by decide +kernel, by decide +kernel⟩, by decide +kernel, by decide⟩
theorem ik_S_way : InsK k_S_way 0 := ⟨ck_S_way, TG_at 551 (by decide +kernel) (by decide +kernel), by decide⟩
theorem vk_S_way : VirK k_S_way 0 := ⟨ik_S_way, TG_at 552 (by decide +kernel) (by decide +kernel)⟩
theorem ck_S_odds : CalK k_S_odds 1 := ⟨TG_at 1 (by decide +kernel) (by decide +kernel), TG_at 557 (by decide +kernel) (by decide +kernel), by decide +kernel, ⟨by decide +kernel, by decide +kernel⟩, by decide +kernel, by decide⟩
theorem ik_S_odds : InsK k_S_odds 1 := ⟨ck_S_odds, TG_at 555 (by decide +kernel) (by decide +kernel), by decide⟩
theorem vk_S_odds : VirK k_S_odds 1 := ⟨ik_S_odds, TG_at 556 (by decide +kernel) (by decide +kernel)⟩
theorem ck_S_seed : CalK k_S_seed 1 := ⟨TG_at 1 (by decide +kernel) (by decide +kernel), TG_at 561 (by decide +kernel) (by decide +kernel), by decide +kernel, ⟨by decide +kernel, by decide +kernel⟩, by decide +kernel, by decide⟩
theorem ik_S_seed : InsK k_S_seed 1 := ⟨ck_S_seed, TG_at 559 (by decide +kernel) (by decide +kernel), by decide⟩
theorem vk_S_seed : VirK k_S_seed 1 := ⟨ik_S_seed, TG_at 560 (by decide +kernel) (by decide +kernel)⟩
theorem ck_S_hold : CalK k_S_hold 2 := ⟨TG_at 1 (by decide +kernel) (by decide +kernel), TG_at 565 (by decide +kernel) (by decide +kernel), by decide +kernel, ⟨by decide +kernel, by decide +kernel⟩, by decide +kernel, by decide⟩
theorem ik_S_hold : InsK k_S_hold 2 := ⟨ck_S_hold, TG_at 563 (by decide +kernel) (by decide +kernel), by decide⟩
theorem vk_S_hold : VirK k_S_hold 2 := ⟨ik_S_hold, TG_at 564 (by decide +kernel) (by decide +kernel)⟩
theorem ck_S_isSpot : CalK k_S_isSpot 1 := ⟨TG_at 1 (by decide +kernel) (by decide +kernel), TG_at 568 (by decide +kernel) (by decide +kernel), by decide +kernel, ⟨by decide +kernel, by decide +kernel⟩, by decide +kernel, by decide⟩
theorem sk_S_isSpot : StaK k_S_isSpot 1 := ⟨ck_S_isSpot, TG_at 567 (by decide +kernel) (by decide +kernel), by decide⟩
theorem ck_S_as : CalK k_S_as 2 := ⟨TG_at 1 (by decide +kernel) (by decide +kernel), TG_at 572 (by decide +kernel) (by decide +kernel), by decide +kernel, ⟨by decide +kernel, by decide +kernel⟩, by decide +kernel, by decide⟩
theorem ik_S_as : InsK k_S_as 2 := ⟨ck_S_as, TG_at 570 (by decide +kernel) (by decide +kernel), by decide⟩
theorem vk_S_as : VirK k_S_as 2 := ⟨ik_S_as, TG_at 571 (by decide +kernel) (by decide +kernel)⟩
theorem ck_S_sheet : CalK k_S_sheet 3 := ⟨TG_at 1 (by decide +kernel) (by decide +kernel), TG_at 577 (by decide +kernel) (by decide +kernel), by decide +kernel, ⟨by decide +kernel, by decide +kernel⟩, by decide +kernel, by decide⟩
theorem ik_S_sheet : InsK k_S_sheet 3 := ⟨ck_S_sheet, TG_at 575 (by decide +kernel) (by decide +kernel), by decide⟩
theorem vk_S_sheet : VirK k_S_sheet 3 := ⟨ik_S_sheet, TG_at 576 (by decide +kernel) (by decide +kernel)⟩
theorem ck_S_isSheet : CalK k_S_isSheet 1 := ⟨TG_at 1 (by decide +kernel) (by decide +kernel), TG_at 580 (by decide +kernel) (by decide +kernel), by decide +kernel, ⟨by decide +kernel, by decide +kernel⟩, by decide +kernel, by decide⟩
theorem sk_S_isSheet : StaK k_S_isSheet 1 := ⟨ck_S_isSheet, TG_at 579 (by decide +kernel) (by decide +kernel), by decide⟩
theorem ck_T_renew : CalK k_T_renew 2 := ⟨TG_at 7 (by decide +kernel) (by decide +kernel), TG_at 584 (by decide +kernel) (by decide +kernel), by decide +kernel, ⟨by decide +kernel, by decide +kernel⟩, by decide +kernel, by decide⟩
theorem ik_T_renew : InsK k_T_renew 2 := ⟨ck_T_renew, TG_at 582 (by decide +kernel) (by decide +kernel), by decide⟩
theorem vk_T_renew : VirK k_T_renew 2 := ⟨ik_T_renew, TG_at 583 (by decide +kernel) (by decide +kernel)⟩
theorem ck_T_isMissing : CalK k_T_isMissing 0 := ⟨TG_at 7 (by decide +kernel) (by decide +kernel), TG_at 589 (by decide +kernel) (by decide +kernel), by decide +kernel, ⟨by decide +kernel, by decide +kernel⟩, by decide +kernel, by decide⟩
theorem ik_T_isMissing : InsK k_T_isMissing 0 := ⟨ck_T_isMissing, TG_at 587 (by decide +kernel) (by decide +kernel), by decide⟩
theorem vk_T_isMissing : VirK k_T_isMissing 0 := ⟨ik_T_isMissing, TG_at 588 (by decide +kernel) (by decide +kernel)⟩
theorem ck_S_write : CalK k_S_write 3 := ⟨TG_at 1 (by decide +kernel) (by decide +kernel), TG_at 593 (by decide +kernel) (by decide +kernel), by decide +kernel, ⟨by decide +kernel, by decide +kernel⟩, by decide +kernel, by decide⟩
theorem ik_S_write : InsK k_S_write 3 := ⟨ck_S_write, TG_at 591 (by decide +kernel) (by decide +kernel), by decide⟩
theorem vk_S_write : VirK k_S_write 3 := ⟨ik_S_write, TG_at 592 (by decide +kernel) (by decide +kernel)⟩
theorem ck_T_hasAll : CalK k_T_hasAll 2 := ⟨TG_at 7 (by decide +kernel) (by decide +kernel), TG_at 598 (by decide +kernel) (by decide +kernel), by decide +kernel, ⟨by decide +kernel, by decide +kernel⟩, by decide +kernel, by decide⟩
theorem ik_T_hasAll : InsK k_T_hasAll 2 := ⟨ck_T_hasAll, TG_at 596 (by decide +kernel) (by decide +kernel), by decide⟩
theorem vk_T_hasAll : VirK k_T_hasAll 2 := ⟨ik_T_hasAll, TG_at 597 (by decide +kernel) (by decide +kernel)⟩
theorem ck_T_fitted : CalK k_T_fitted 1 := ⟨TG_at 7 (by decide +kernel) (by decide +kernel), TG_at 602 (by decide +kernel) (by decide +kernel), by decide +kernel, ⟨by decide +kernel, by decide +kernel⟩, by decide +kernel, by decide⟩
theorem ik_T_fitted : InsK k_T_fitted 1 := ⟨ck_T_fitted, TG_at 600 (by decide +kernel) (by decide +kernel), by decide⟩
theorem vk_T_fitted : VirK k_T_fitted 1 := ⟨ik_T_fitted, TG_at 601 (by decide +kernel) (by decide +kernel)⟩
theorem ck_S_copy : CalK k_S_copy 5 := ⟨TG_at 1 (by decide +kernel) (by decide +kernel), TG_at 606 (by decide +kernel) (by decide +kernel), by decide +kernel, ⟨by decide +kernel, by decide +kernel⟩, by decide +kernel, by decide⟩
theorem ik_S_copy : InsK k_S_copy 5 := ⟨ck_S_copy, TG_at 604 (by decide +kernel) (by decide +kernel), by decide⟩
theorem vk_S_copy : VirK k_S_copy 5 := ⟨ik_S_copy, TG_at 605 (by decide +kernel) (by decide +kernel)⟩
theorem ck_S_load : CalK k_S_load 2 := ⟨TG_at 1 (by decide +kernel) (by decide +kernel), TG_at 611 (by decide +kernel) (by decide +kernel), by decide +kernel, ⟨by decide +kernel, by decide +kernel⟩, by decide +kernel, by decide⟩
theorem ik_S_load : InsK k_S_load 2 := ⟨ck_S_load, TG_at 609 (by decide +kernel) (by decide +kernel), by decide⟩
theorem vk_S_load : VirK k_S_load 2 := ⟨ik_S_load, TG_at 610 (by decide +kernel) (by decide +kernel)⟩
theorem ck_S_judge : CalK k_S_judge 1 := ⟨TG_at 1 (by decide +kernel) (by decide +kernel), TG_at 616 (by decide +kernel) (by decide +kernel), by decide +kernel, ⟨by decide +kernel, by decide +kernel⟩, by decide +kernel, by decide⟩
theorem ik_S_judge : InsK k_S_judge 1 := ⟨ck_S_judge, TG_at 614 (by decide +kernel) (by decide +kernel), by decide⟩
theorem vk_S_judge : VirK k_S_judge 1 := ⟨ik_S_judge, TG_at 615 (by decide +kernel) (by decide +kernel)⟩
theorem ck_S_image : CalK k_S_image 0 := ⟨TG_at 1 (by decide +kernel) (by decide +kernel), TG_at 620 (by decide +kernel) (by decide +kernel), by decide +kernel, ⟨by decide +kernel, by decide +kernel⟩, by decide +kernel, by decide⟩
theorem ik_S_image : InsK k_S_image 0 := ⟨ck_S_image, TG_at 618 (by decide +kernel) (by decide +kernel), by decide⟩
theorem vk_S_image : VirK k_S_image 0 := ⟨ik_S_image, TG_at 619 (by decide +kernel) (by decide +kernel)⟩
theorem ck_S_undo : CalK k_S_undo 0 := ⟨TG_at 1 (by decide +kernel) (by decide +kernel), TG_at 624 (by decide +kernel) (by decide +kernel), by decide +kernel, ⟨by decide +kernel, by decide +kernel⟩, by decide +kernel, by decide⟩
theorem ik_S_undo : InsK k_S_undo 0 := ⟨ck_S_undo, TG_at 622 (by decide +kernel) (by decide +kernel), by decide⟩
theorem vk_S_undo : VirK k_S_undo 0 := ⟨ik_S_undo, TG_at 623 (by decide +kernel) (by decide +kernel)⟩
theorem ck_S_tear : CalK k_S_tear 0 := ⟨TG_at 1 (by decide +kernel) (by decide +kernel), TG_at 628 (by decide +kernel) (by decide +kernel), by decide +kernel, ⟨by decide +kernel, by decide +kernel⟩, by decide +kernel, by decide⟩
theorem ik_S_tear : InsK k_S_tear 0 := ⟨ck_S_tear, TG_at 626 (by decide +kernel) (by decide +kernel), by decide⟩
theorem vk_S_tear : VirK k_S_tear 0 := ⟨ik_S_tear, TG_at 627 (by decide +kernel) (by decide +kernel)⟩
theorem ck_S_count : CalK k_S_count 1 := ⟨TG_at 1 (by decide +kernel) (by decide +kernel), TG_at 632 (by decide +kernel) (by decide +kernel), by decide +kernel, ⟨by decide +kernel, by decide +kernel⟩, by decide +kernel, by decide⟩
theorem ik_S_count : InsK k_S_count 1 := ⟨ck_S_count, TG_at 630 (by decide +kernel) (by decide +kernel), by decide⟩
theorem vk_S_count : VirK k_S_count 1 := ⟨ik_S_count, TG_at 631 (by decide +kernel) (by decide +kernel)⟩
theorem ck_S_filledOf : CalK k_S_filledOf 1 := ⟨TG_at 1 (by decide +kernel) (by decide +kernel), TG_at 635 (by decide +kernel) (by decide +kernel), by decide +kernel, ⟨by decide +kernel, by decide +kernel⟩, by decide +kernel, by decide⟩
theorem sk_S_filledOf : StaK k_S_filledOf 1 := ⟨ck_S_filledOf, TG_at 634 (by decide +kernel) (by decide +kernel), by decide⟩
theorem ck_S_status : CalK k_S_status 1 := ⟨TG_at 1 (by decide +kernel) (by decide +kernel), TG_at 639 (by decide +kernel) (by decide +kernel), by decide +kernel, ⟨by decide +kernel, by decide +kernel⟩, by decide +kernel, by decide⟩
theorem ik_S_status : InsK k_S_status 1 := ⟨ck_S_status, TG_at 637 (by decide +kernel) (by decide +kernel), by decide⟩
theorem vk_S_status : VirK k_S_status 1 := ⟨ik_S_status, TG_at 638 (by decide +kernel) (by decide +kernel)⟩
theorem ck_M_init : CalK k_M_init 0 := ⟨TG_at 8 (by decide +kernel) (by decide +kernel), TG_at 644 (by decide +kernel) (by decide +kernel), by decide +kernel, ⟨by decide +kernel, by decide +kernel⟩, by decide +kernel, by decide⟩
theorem ik_M_init : InsK k_M_init 0 := ⟨ck_M_init, TG_at 643 (by decide +kernel) (by decide +kernel), by decide⟩
theorem ck_M_sand : CalK k_M_sand 2 := ⟨TG_at 8 (by decide +kernel) (by decide +kernel), TG_at 698 (by decide +kernel) (by decide +kernel), by decide +kernel, ⟨by decide +kernel, by decide +kernel⟩, by decide +kernel, by decide⟩
theorem ik_M_sand : InsK k_M_sand 2 := ⟨ck_M_sand, TG_at 696 (by decide +kernel) (by decide +kernel), by decide⟩
theorem vk_M_sand : VirK k_M_sand 2 := ⟨ik_M_sand, TG_at 697 (by decide +kernel) (by decide +kernel)⟩
theorem ck_M_isYard : CalK k_M_isYard 1 := ⟨TG_at 8 (by decide +kernel) (by decide +kernel), TG_at 701 (by decide +kernel) (by decide +kernel), by decide +kernel, ⟨by decide +kernel, by decide +kernel⟩, by decide +kernel, by decide⟩
theorem sk_M_isYard : StaK k_M_isYard 1 := ⟨ck_M_isYard, TG_at 700 (by decide +kernel) (by decide +kernel), by decide⟩
theorem ck_M_in : CalK k_M_in 3 := ⟨TG_at 8 (by decide +kernel) (by decide +kernel), TG_at 704 (by decide +kernel) (by decide +kernel), by decide +kernel, ⟨by decide +kernel, by decide +kernel⟩, by decide +kernel, by decide⟩
theorem sk_M_in : StaK k_M_in 3 := ⟨ck_M_in, TG_at 703 (by decide +kernel) (by decide +kernel), by decide⟩
theorem ck_M_finding : CalK k_M_finding 1 := ⟨TG_at 8 (by decide +kernel) (by decide +kernel), TG_at 708 (by decide +kernel) (by decide +kernel), by decide +kernel, ⟨by decide +kernel, by decide +kernel⟩, by decide +kernel, by decide⟩
theorem ik_M_finding : InsK k_M_finding 1 := ⟨ck_M_finding, TG_at 707 (by decide +kernel) (by decide +kernel), by decide⟩
theorem vk_M_finding : VirK k_M_finding 1 := ⟨ik_M_finding, TG_sel 14 (by decide +kernel) (by decide +kernel)⟩
theorem ck_M_yardOf : CalK k_M_yardOf 2 := ⟨TG_at 8 (by decide +kernel) (by decide +kernel), TG_at 713 (by decide +kernel) (by decide +kernel), by decide +kernel, ⟨by decide +kernel, by decide +kernel⟩, by decide +kernel, by decide⟩
theorem ik_M_yardOf : InsK k_M_yardOf 2 := ⟨ck_M_yardOf, TG_at 711 (by decide +kernel) (by decide +kernel), by decide⟩
theorem vk_M_yardOf : VirK k_M_yardOf 2 := ⟨ik_M_yardOf, TG_at 712 (by decide +kernel) (by decide +kernel)⟩
theorem ck_M_grip : CalK k_M_grip 1 := ⟨TG_at 8 (by decide +kernel) (by decide +kernel), TG_at 717 (by decide +kernel) (by decide +kernel), by decide +kernel, ⟨by decide +kernel, by decide +kernel⟩, by decide +kernel, by decide⟩
theorem ik_M_grip : InsK k_M_grip 1 := ⟨ck_M_grip, TG_at 716 (by decide +kernel) (by decide +kernel), by decide⟩
theorem vk_M_grip : VirK k_M_grip 1 := ⟨ik_M_grip, TG_sel 15 (by decide +kernel) (by decide +kernel)⟩
theorem ck_M_gripOf : CalK k_M_gripOf 2 := ⟨TG_at 8 (by decide +kernel) (by decide +kernel), TG_at 721 (by decide +kernel) (by decide +kernel), by decide +kernel, ⟨by decide +kernel, by decide +kernel⟩, by decide +kernel, by decide⟩
theorem ik_M_gripOf : InsK k_M_gripOf 2 := ⟨ck_M_gripOf, TG_at 720 (by decide +kernel) (by decide +kernel), by decide⟩
theorem vk_M_gripOf : VirK k_M_gripOf 2 := ⟨ik_M_gripOf, TG_sel 16 (by decide +kernel) (by decide +kernel)⟩
theorem ck_M_hour : CalK k_M_hour 0 := ⟨TG_at 8 (by decide +kernel) (by decide +kernel), TG_at 725 (by decide +kernel) (by decide +kernel), by decide +kernel, ⟨by decide +kernel, by decide +kernel⟩, by decide +kernel, by decide⟩
theorem ik_M_hour : InsK k_M_hour 0 := ⟨ck_M_hour, TG_at 724 (by decide +kernel) (by decide +kernel), by decide⟩
theorem vk_M_hour : VirK k_M_hour 0 := ⟨ik_M_hour, TG_sel 17 (by decide +kernel) (by decide +kernel)⟩
theorem ck_M_set : CalK k_M_set 2 := ⟨TG_at 8 (by decide +kernel) (by decide +kernel), TG_at 729 (by decide +kernel) (by decide +kernel), by decide +kernel, ⟨by decide +kernel, by decide +kernel⟩, by decide +kernel, by decide⟩
theorem ik_M_set : InsK k_M_set 2 := ⟨ck_M_set, TG_at 727 (by decide +kernel) (by decide +kernel), by decide⟩
theorem vk_M_set : VirK k_M_set 2 := ⟨ik_M_set, TG_at 728 (by decide +kernel) (by decide +kernel)⟩
theorem ck_M_isSet : CalK k_M_isSet 2 := ⟨TG_at 8 (by decide +kernel) (by decide +kernel), TG_at 732 (by decide +kernel) (by decide +kernel), by decide +kernel, ⟨by decide +kernel, by decide +kernel⟩, by decide +kernel, by decide⟩
theorem sk_M_isSet : StaK k_M_isSet 2 := ⟨ck_M_isSet, TG_at 731 (by decide +kernel) (by decide +kernel), by decide⟩
theorem ck_M_mostOf : CalK k_M_mostOf 1 := ⟨TG_at 8 (by decide +kernel) (by decide +kernel), TG_at 735 (by decide +kernel) (by decide +kernel), by decide +kernel, ⟨by decide +kernel, by decide +kernel⟩, by decide +kernel, by decide⟩
theorem sk_M_mostOf : StaK k_M_mostOf 1 := ⟨ck_M_mostOf, TG_at 734 (by decide +kernel) (by decide +kernel), by decide⟩
theorem ck_M_now : CalK k_M_now 1 := ⟨TG_at 8 (by decide +kernel) (by decide +kernel), TG_at 739 (by decide +kernel) (by decide +kernel), by decide +kernel, ⟨by decide +kernel, by decide +kernel⟩, by decide +kernel, by decide⟩
theorem ik_M_now : InsK k_M_now 1 := ⟨ck_M_now, TG_at 737 (by decide +kernel) (by decide +kernel), by decide⟩
theorem vk_M_now : VirK k_M_now 1 := ⟨ik_M_now, TG_at 738 (by decide +kernel) (by decide +kernel)⟩
theorem ck_M_heat : CalK k_M_heat 0 := ⟨TG_at 8 (by decide +kernel) (by decide +kernel), TG_at 743 (by decide +kernel) (by decide +kernel), by decide +kernel, ⟨by decide +kernel, by decide +kernel⟩, by decide +kernel, by decide⟩
theorem ik_M_heat : InsK k_M_heat 0 := ⟨ck_M_heat, TG_at 742 (by decide +kernel) (by decide +kernel), by decide⟩
theorem vk_M_heat : VirK k_M_heat 0 := ⟨ik_M_heat, TG_sel 18 (by decide +kernel) (by decide +kernel)⟩
theorem ck_M_weight : CalK k_M_weight 0 := ⟨TG_at 8 (by decide +kernel) (by decide +kernel), TG_at 747 (by decide +kernel) (by decide +kernel), by decide +kernel, ⟨by decide +kernel, by decide +kernel⟩, by decide +kernel, by decide⟩
theorem ik_M_weight : InsK k_M_weight 0 := ⟨ck_M_weight, TG_at 746 (by decide +kernel) (by decide +kernel), by decide⟩
theorem vk_M_weight : VirK k_M_weight 0 := ⟨ik_M_weight, TG_sel 19 (by decide +kernel) (by decide +kernel)⟩
theorem ck_M_isOut : CalK k_M_isOut 0 := ⟨TG_at 8 (by decide +kernel) (by decide +kernel), TG_at 751 (by decide +kernel) (by decide +kernel), by decide +kernel, ⟨by decide +kernel, by decide +kernel⟩, by decide +kernel, by decide⟩
theorem ik_M_isOut : InsK k_M_isOut 0 := ⟨ck_M_isOut, TG_at 750 (by decide +kernel) (by decide +kernel), by decide⟩
theorem vk_M_isOut : VirK k_M_isOut 0 := ⟨ik_M_isOut, TG_sel 20 (by decide +kernel) (by decide +kernel)⟩
theorem ck_M_soft : CalK k_M_soft 2 := ⟨TG_at 8 (by decide +kernel) (by decide +kernel), TG_at 755 (by decide +kernel) (by decide +kernel), by decide +kernel, ⟨by decide +kernel, by decide +kernel⟩, by decide +kernel, by decide⟩
theorem ik_M_soft : InsK k_M_soft 2 := ⟨ck_M_soft, TG_at 753 (by decide +kernel) (by decide +kernel), by decide⟩
theorem vk_M_soft : VirK k_M_soft 2 := ⟨ik_M_soft, TG_at 754 (by decide +kernel) (by decide +kernel)⟩
theorem ck_M_wind : CalK k_M_wind 1 := ⟨TG_at 8 (by decide +kernel) (by decide +kernel), TG_at 759 (by decide +kernel) (by decide +kernel), by decide +kernel, ⟨by decide +kernel, by decide +kernel⟩, by decide +kernel, by decide⟩
theorem ik_M_wind : InsK k_M_wind 1 := ⟨ck_M_wind, TG_at 757 (by decide +kernel) (by decide +kernel), by decide⟩
theorem vk_M_wind : VirK k_M_wind 1 := ⟨ik_M_wind, TG_at 758 (by decide +kernel) (by decide +kernel)⟩
theorem ck_M_draw : CalK k_M_draw 0 := ⟨TG_at 8 (by decide +kernel) (by decide +kernel), TG_at 763 (by decide +kernel) (by decide +kernel), by decide +kernel, ⟨by decide +kernel, by decide +kernel⟩, by decide +kernel, by decide⟩
theorem ik_M_draw : InsK k_M_draw 0 := ⟨ck_M_draw, TG_at 762 (by decide +kernel) (by decide +kernel), by decide⟩
theorem vk_M_draw : VirK k_M_draw 0 := ⟨ik_M_draw, TG_sel 21 (by decide +kernel) (by decide +kernel)⟩
theorem ck_M_allFirm : CalK k_M_allFirm 0 := ⟨TG_at 8 (by decide +kernel) (by decide +kernel), TG_at 768 (by decide +kernel) (by decide +kernel), by decide +kernel, ⟨by decide +kernel, by decide +kernel⟩, by decide +kernel, by decide⟩
theorem ik_M_allFirm : InsK k_M_allFirm 0 := ⟨ck_M_allFirm, TG_at 767 (by decide +kernel) (by decide +kernel), by decide⟩
theorem vk_M_allFirm : VirK k_M_allFirm 0 := ⟨ik_M_allFirm, TG_sel 22 (by decide +kernel) (by decide +kernel)⟩
theorem ck_M_effort : CalK k_M_effort 2 := ⟨TG_at 8 (by decide +kernel) (by decide +kernel), TG_at 772 (by decide +kernel) (by decide +kernel), by decide +kernel, ⟨by decide +kernel, by decide +kernel⟩, by decide +kernel, by decide⟩
theorem ik_M_effort : InsK k_M_effort 2 := ⟨ck_M_effort, TG_at 770 (by decide +kernel) (by decide +kernel), by decide⟩
theorem vk_M_effort : VirK k_M_effort 2 := ⟨ik_M_effort, TG_at 771 (by decide +kernel) (by decide +kernel)⟩
theorem ck_M_isSlot : CalK k_M_isSlot 1 := ⟨TG_at 8 (by decide +kernel) (by decide +kernel), TG_at 775 (by decide +kernel) (by decide +kernel), by decide +kernel, ⟨by decide +kernel, by decide +kernel⟩, by decide +kernel, by decide⟩
theorem sk_M_isSlot : StaK k_M_isSlot 1 := ⟨ck_M_isSlot, TG_at 774 (by decide +kernel) (by decide +kernel), by decide⟩
theorem ck_M_isKind : CalK k_M_isKind 1 := ⟨TG_at 8 (by decide +kernel) (by decide +kernel), TG_at 778 (by decide +kernel) (by decide +kernel), by decide +kernel, ⟨by decide +kernel, by decide +kernel⟩, by decide +kernel, by decide⟩
theorem sk_M_isKind : StaK k_M_isKind 1 := ⟨ck_M_isKind, TG_at 777 (by decide +kernel) (by decide +kernel), by decide⟩
theorem ck_M_effortOf : CalK k_M_effortOf 2 := ⟨TG_at 8 (by decide +kernel) (by decide +kernel), TG_at 782 (by decide +kernel) (by decide +kernel), by decide +kernel, ⟨by decide +kernel, by decide +kernel⟩, by decide +kernel, by decide⟩
theorem ik_M_effortOf : InsK k_M_effortOf 2 := ⟨ck_M_effortOf, TG_at 780 (by decide +kernel) (by decide +kernel), by decide⟩
theorem vk_M_effortOf : VirK k_M_effortOf 2 := ⟨ik_M_effortOf, TG_at 781 (by decide +kernel) (by decide +kernel)⟩
theorem ck_M_minutesOf : CalK k_M_minutesOf 1 := ⟨TG_at 8 (by decide +kernel) (by decide +kernel), TG_at 786 (by decide +kernel) (by decide +kernel), by decide +kernel, ⟨by decide +kernel, by decide +kernel⟩, by decide +kernel, by decide⟩
theorem ik_M_minutesOf : InsK k_M_minutesOf 1 := ⟨ck_M_minutesOf, TG_at 785 (by decide +kernel) (by decide +kernel), by decide⟩
theorem vk_M_minutesOf : VirK k_M_minutesOf 1 := ⟨ik_M_minutesOf, TG_sel 23 (by decide +kernel) (by decide +kernel)⟩
theorem ck_M_workOf : CalK k_M_workOf 1 := ⟨TG_at 8 (by decide +kernel) (by decide +kernel), TG_at 789 (by decide +kernel) (by decide +kernel), by decide +kernel, ⟨by decide +kernel, by decide +kernel⟩, by decide +kernel, by decide⟩
theorem sk_M_workOf : StaK k_M_workOf 1 := ⟨ck_M_workOf, TG_at 788 (by decide +kernel) (by decide +kernel), by decide⟩
theorem ck_M_drinks : CalK k_M_drinks 1 := ⟨TG_at 8 (by decide +kernel) (by decide +kernel), TG_at 793 (by decide +kernel) (by decide +kernel), by decide +kernel, ⟨by decide +kernel, by decide +kernel⟩, by decide +kernel, by decide⟩
theorem ik_M_drinks : InsK k_M_drinks 1 := ⟨ck_M_drinks, TG_at 792 (by decide +kernel) (by decide +kernel), by decide⟩
theorem vk_M_drinks : VirK k_M_drinks 1 := ⟨ik_M_drinks, TG_sel 24 (by decide +kernel) (by decide +kernel)⟩
theorem ck_M_go : CalK k_M_go 1 := ⟨TG_at 8 (by decide +kernel) (by decide +kernel), TG_at 797 (by decide +kernel) (by decide +kernel), by decide +kernel, ⟨by decide +kernel, by decide +kernel⟩, by decide +kernel, by decide⟩
theorem ik_M_go : InsK k_M_go 1 := ⟨ck_M_go, TG_at 795 (by decide +kernel) (by decide +kernel), by decide⟩
theorem vk_M_go : VirK k_M_go 1 := ⟨ik_M_go, TG_at 796 (by decide +kernel) (by decide +kernel)⟩
theorem ck_M_canDo : CalK k_M_canDo 1 := ⟨TG_at 8 (by decide +kernel) (by decide +kernel), TG_at 801 (by decide +kernel) (by decide +kernel), by decide +kernel, ⟨by decide +kernel, by decide +kernel⟩, by decide +kernel, by decide⟩
theorem ik_M_canDo : InsK k_M_canDo 1 := ⟨ck_M_canDo, TG_at 800 (by decide +kernel) (by decide +kernel), by decide⟩
theorem vk_M_canDo : VirK k_M_canDo 1 := ⟨ik_M_canDo, TG_sel 25 (by decide +kernel) (by decide +kernel)⟩
theorem ck_M_does : CalK k_M_does 1 := ⟨TG_at 8 (by decide +kernel) (by decide +kernel), TG_at 805 (by decide +kernel) (by decide +kernel), by decide +kernel, ⟨by decide +kernel, by decide +kernel⟩, by decide +kernel, by decide⟩
theorem ik_M_does : InsK k_M_does 1 := ⟨ck_M_does, TG_at 804 (by decide +kernel) (by decide +kernel), by decide⟩
theorem vk_M_does : VirK k_M_does 1 := ⟨ik_M_does, TG_sel 26 (by decide +kernel) (by decide +kernel)⟩
theorem ck_M_digs : CalK k_M_digs 0 := ⟨TG_at 8 (by decide +kernel) (by decide +kernel), TG_at 809 (by decide +kernel) (by decide +kernel), by decide +kernel, ⟨by decide +kernel, by decide +kernel⟩, by decide +kernel, by decide⟩
theorem ik_M_digs : InsK k_M_digs 0 := ⟨ck_M_digs, TG_at 808 (by decide +kernel) (by decide +kernel), by decide⟩
theorem vk_M_digs : VirK k_M_digs 0 := ⟨ik_M_digs, TG_sel 27 (by decide +kernel) (by decide +kernel)⟩
theorem ck_M_pushes : CalK k_M_pushes 5 := ⟨TG_at 8 (by decide +kernel) (by decide +kernel), TG_at 813 (by decide +kernel) (by decide +kernel), by decide +kernel, ⟨by decide +kernel, by decide +kernel⟩, by decide +kernel, by decide⟩
theorem ik_M_pushes : InsK k_M_pushes 5 := ⟨ck_M_pushes, TG_at 812 (by decide +kernel) (by decide +kernel), by decide⟩
theorem vk_M_pushes : VirK k_M_pushes 5 := ⟨ik_M_pushes, TG_sel 28 (by decide +kernel) (by decide +kernel)⟩
theorem ck_M_gives : CalK k_M_gives 2 := ⟨TG_at 8 (by decide +kernel) (by decide +kernel), TG_at 817 (by decide +kernel) (by decide +kernel), by decide +kernel, ⟨by decide +kernel, by decide +kernel⟩, by decide +kernel, by decide⟩
theorem ik_M_gives : InsK k_M_gives 2 := ⟨ck_M_gives, TG_at 815 (by decide +kernel) (by decide +kernel), by decide⟩
theorem vk_M_gives : VirK k_M_gives 2 := ⟨ik_M_gives, TG_at 816 (by decide +kernel) (by decide +kernel)⟩
theorem ck_M_begin : CalK k_M_begin 0 := ⟨TG_at 8 (by decide +kernel) (by decide +kernel), TG_at 821 (by decide +kernel) (by decide +kernel), by decide +kernel, ⟨by decide +kernel, by decide +kernel⟩, by decide +kernel, by decide⟩
theorem ik_M_begin : InsK k_M_begin 0 := ⟨ck_M_begin, TG_at 820 (by decide +kernel) (by decide +kernel), by decide⟩
theorem vk_M_begin : VirK k_M_begin 0 := ⟨ik_M_begin, TG_sel 29 (by decide +kernel) (by decide +kernel)⟩
theorem ck_M_lay : CalK k_M_lay 2 := ⟨TG_at 8 (by decide +kernel) (by decide +kernel), TG_at 824 (by decide +kernel) (by decide +kernel), by decide +kernel, ⟨by decide +kernel, by decide +kernel⟩, by decide +kernel, by decide⟩
theorem sk_M_lay : StaK k_M_lay 2 := ⟨ck_M_lay, TG_at 823 (by decide +kernel) (by decide +kernel), by decide⟩
theorem ck_M_became : CalK k_M_became 1 := ⟨TG_at 8 (by decide +kernel) (by decide +kernel), TG_at 828 (by decide +kernel) (by decide +kernel), by decide +kernel, ⟨by decide +kernel, by decide +kernel⟩, by decide +kernel, by decide⟩
theorem ik_M_became : InsK k_M_became 1 := ⟨ck_M_became, TG_at 827 (by decide +kernel) (by decide +kernel), by decide⟩
theorem vk_M_became : VirK k_M_became 1 := ⟨ik_M_became, TG_sel 30 (by decide +kernel) (by decide +kernel)⟩
theorem ck_M_layBack : CalK k_M_layBack 0 := ⟨TG_at 8 (by decide +kernel) (by decide +kernel), TG_at 832 (by decide +kernel) (by decide +kernel), by decide +kernel, ⟨by decide +kernel, by decide +kernel⟩, by decide +kernel, by decide⟩
theorem ik_M_layBack : InsK k_M_layBack 0 := ⟨ck_M_layBack, TG_at 831 (by decide +kernel) (by decide +kernel), by decide⟩
theorem vk_M_layBack : VirK k_M_layBack 0 := ⟨ik_M_layBack, TG_sel 31 (by decide +kernel) (by decide +kernel)⟩
theorem ck_M_lasts : CalK k_M_lasts 1 := ⟨TG_at 8 (by decide +kernel) (by decide +kernel), TG_at 836 (by decide +kernel) (by decide +kernel), by decide +kernel, ⟨by decide +kernel, by decide +kernel⟩, by decide +kernel, by decide⟩
theorem ik_M_lasts : InsK k_M_lasts 1 := ⟨ck_M_lasts, TG_at 834 (by decide +kernel) (by decide +kernel), by decide⟩
theorem vk_M_lasts : VirK k_M_lasts 1 := ⟨ik_M_lasts, TG_at 835 (by decide +kernel) (by decide +kernel)⟩
theorem ck_M_again : CalK k_M_again 2 := ⟨TG_at 8 (by decide +kernel) (by decide +kernel), TG_at 840 (by decide +kernel) (by decide +kernel), by decide +kernel, ⟨by decide +kernel, by decide +kernel⟩, by decide +kernel, by decide⟩
theorem ik_M_again : InsK k_M_again 2 := ⟨ck_M_again, TG_at 839 (by decide +kernel) (by decide +kernel), by decide⟩
theorem vk_M_again : VirK k_M_again 2 := ⟨ik_M_again, TG_sel 32 (by decide +kernel) (by decide +kernel)⟩
theorem ck_M_out : CalK k_M_out 1 := ⟨TG_at 8 (by decide +kernel) (by decide +kernel), TG_at 844 (by decide +kernel) (by decide +kernel), by decide +kernel, ⟨by decide +kernel, by decide +kernel⟩, by decide +kernel, by decide⟩
theorem ik_M_out : InsK k_M_out 1 := ⟨ck_M_out, TG_at 842 (by decide +kernel) (by decide +kernel), by decide⟩
theorem vk_M_out : VirK k_M_out 1 := ⟨ik_M_out, TG_at 843 (by decide +kernel) (by decide +kernel)⟩
theorem ck_M_outBy : CalK k_M_outBy 2 := ⟨TG_at 8 (by decide +kernel) (by decide +kernel), TG_at 848 (by decide +kernel) (by decide +kernel), by decide +kernel, ⟨by decide +kernel, by decide +kernel⟩, by decide +kernel, by decide⟩
theorem ik_M_outBy : InsK k_M_outBy 2 := ⟨ck_M_outBy, TG_at 847 (by decide +kernel) (by decide +kernel), by decide⟩
theorem vk_M_outBy : VirK k_M_outBy 2 := ⟨ik_M_outBy, TG_sel 33 (by decide +kernel) (by decide +kernel)⟩
theorem ck_M_when : CalK k_M_when 1 := ⟨TG_at 8 (by decide +kernel) (by decide +kernel), TG_at 852 (by decide +kernel) (by decide +kernel), by decide +kernel, ⟨by decide +kernel, by decide +kernel⟩, by decide +kernel, by decide⟩
theorem ik_M_when : InsK k_M_when 1 := ⟨ck_M_when, TG_at 850 (by decide +kernel) (by decide +kernel), by decide⟩
theorem vk_M_when : VirK k_M_when 1 := ⟨ik_M_when, TG_at 851 (by decide +kernel) (by decide +kernel)⟩
theorem ck_M_feed : CalK k_M_feed 2 := ⟨TG_at 8 (by decide +kernel) (by decide +kernel), TG_at 856 (by decide +kernel) (by decide +kernel), by decide +kernel, ⟨by decide +kernel, by decide +kernel⟩, by decide +kernel, by decide⟩
theorem ik_M_feed : InsK k_M_feed 2 := ⟨ck_M_feed, TG_at 854 (by decide +kernel) (by decide +kernel), by decide⟩
theorem vk_M_feed : VirK k_M_feed 2 := ⟨ik_M_feed, TG_at 855 (by decide +kernel) (by decide +kernel)⟩
theorem ck_M_wipe : CalK k_M_wipe 0 := ⟨TG_at 8 (by decide +kernel) (by decide +kernel), TG_at 860 (by decide +kernel) (by decide +kernel), by decide +kernel, ⟨by decide +kernel, by decide +kernel⟩, by decide +kernel, by decide⟩
theorem ik_M_wipe : InsK k_M_wipe 0 := ⟨ck_M_wipe, TG_at 858 (by decide +kernel) (by decide +kernel), by decide⟩
theorem vk_M_wipe : VirK k_M_wipe 0 := ⟨ik_M_wipe, TG_at 859 (by decide +kernel) (by decide +kernel)⟩
theorem ck_M_text : CalK k_M_text 0 := ⟨TG_at 8 (by decide +kernel) (by decide +kernel), TG_at 864 (by decide +kernel) (by decide +kernel), by decide +kernel, ⟨by decide +kernel, by decide +kernel⟩, by decide +kernel, by decide⟩
theorem ik_M_text : InsK k_M_text 0 := ⟨ck_M_text, TG_at 862 (by decide +kernel) (by decide +kernel), by decide⟩
theorem vk_M_text : VirK k_M_text 0 := ⟨ik_M_text, TG_at 863 (by decide +kernel) (by decide +kernel)⟩
theorem ck_M_takesAll : CalK k_M_takesAll 0 := ⟨TG_at 8 (by decide +kernel) (by decide +kernel), TG_at 868 (by decide +kernel) (by decide +kernel), by decide +kernel, ⟨by decide +kernel, by decide +kernel⟩, by decide +kernel, by decide⟩
theorem ik_M_takesAll : InsK k_M_takesAll 0 := ⟨ck_M_takesAll, TG_at 867 (by decide +kernel) (by decide +kernel), by decide⟩
theorem vk_M_takesAll : VirK k_M_takesAll 0 := ⟨ik_M_takesAll, TG_sel 34 (by decide +kernel) (by decide +kernel)⟩
theorem ck_M_next : CalK k_M_next 0 := ⟨TG_at 8 (by decide +kernel) (by decide +kernel), TG_at 872 (by decide +kernel) (by decide +kernel), by decide +kernel, ⟨by decide +kernel, by decide +kernel⟩, by decide +kernel, by decide⟩
theorem ik_M_next : InsK k_M_next 0 := ⟨ck_M_next, TG_at 871 (by decide +kernel) (by decide +kernel), by decide⟩
theorem vk_M_next : VirK k_M_next 0 := ⟨ik_M_next, TG_sel 35 (by decide +kernel) (by decide +kernel)⟩
theorem ck_M_byteAt : CalK k_M_byteAt 1 := ⟨TG_at 8 (by decide +kernel) (by decide +kernel), TG_at 876 (by decide +kernel) (by decide +kernel), by decide +kernel, ⟨by decide +kernel, by decide +kernel⟩, by decide +kernel, by decide⟩
theorem ik_M_byteAt : InsK k_M_byteAt 1 := ⟨ck_M_byteAt, TG_at 875 (by decide +kernel) (by decide +kernel), by decide⟩
theorem vk_M_byteAt : VirK k_M_byteAt 1 := ⟨ik_M_byteAt, TG_sel 36 (by decide +kernel) (by decide +kernel)⟩
theorem ck_M_takesItem : CalK k_M_takesItem 0 := ⟨TG_at 8 (by decide +kernel) (by decide +kernel), TG_at 880 (by decide +kernel) (by decide +kernel), by decide +kernel, ⟨by decide +kernel, by decide +kernel⟩, by decide +kernel, by decide⟩
theorem ik_M_takesItem : InsK k_M_takesItem 0 := ⟨ck_M_takesItem, TG_at 879 (by decide +kernel) (by decide +kernel), by decide⟩
theorem vk_M_takesItem : VirK k_M_takesItem 0 := ⟨ik_M_takesItem, TG_sel 37 (by decide +kernel) (by decide +kernel)⟩
theorem ck_M_isWord : CalK k_M_isWord 1 := ⟨TG_at 8 (by decide +kernel) (by decide +kernel), TG_at 885 (by decide +kernel) (by decide +kernel), by decide +kernel, ⟨by decide +kernel, by decide +kernel⟩, by decide +kernel, by decide⟩
theorem ik_M_isWord : InsK k_M_isWord 1 := ⟨ck_M_isWord, TG_at 884 (by decide +kernel) (by decide +kernel), by decide⟩
theorem vk_M_isWord : VirK k_M_isWord 1 := ⟨ik_M_isWord, TG_sel 38 (by decide +kernel) (by decide +kernel)⟩
theorem ck_M_takesSand : CalK k_M_takesSand 0 := ⟨TG_at 8 (by decide +kernel) (by decide +kernel), TG_at 891 (by decide +kernel) (by decide +kernel), by decide +kernel, ⟨by decide +kernel, by decide +kernel⟩, by decide +kernel, by decide⟩
theorem ik_M_takesSand : InsK k_M_takesSand 0 := ⟨ck_M_takesSand, TG_at 890 (by decide +kernel) (by decide +kernel), by decide⟩
theorem vk_M_takesSand : VirK k_M_takesSand 0 := ⟨ik_M_takesSand, TG_sel 39 (by decide +kernel) (by decide +kernel)⟩
theorem ck_M_isNumber : CalK k_M_isNumber 2 := ⟨TG_at 8 (by decide +kernel) (by decide +kernel), TG_at 895 (by decide +kernel) (by decide +kernel), by decide +kernel, ⟨by decide +kernel, by decide +kernel⟩, by decide +kernel, by decide⟩
theorem ik_M_isNumber : InsK k_M_isNumber 2 := ⟨ck_M_isNumber, TG_at 894 (by decide +kernel) (by decide +kernel), by decide⟩
theorem vk_M_isNumber : VirK k_M_isNumber 2 := ⟨ik_M_isNumber, TG_sel 40 (by decide +kernel) (by decide +kernel)⟩
theorem ck_M_takesSet : CalK k_M_takesSet 1 := ⟨TG_at 8 (by decide +kernel) (by decide +kernel), TG_at 904 (by decide +kernel) (by decide +kernel), by decide +kernel, ⟨by decide +kernel, by decide +kernel⟩, by decide +kernel, by decide⟩
theorem ik_M_takesSet : InsK k_M_takesSet 1 := ⟨ck_M_takesSet, TG_at 903 (by decide +kernel) (by decide +kernel), by decide⟩
theorem vk_M_takesSet : VirK k_M_takesSet 1 := ⟨ik_M_takesSet, TG_sel 41 (by decide +kernel) (by decide +kernel)⟩
theorem ck_M_takesKind : CalK k_M_takesKind 1 := ⟨TG_at 8 (by decide +kernel) (by decide +kernel), TG_at 916 (by decide +kernel) (by decide +kernel), by decide +kernel, ⟨by decide +kernel, by decide +kernel⟩, by decide +kernel, by decide⟩
theorem ik_M_takesKind : InsK k_M_takesKind 1 := ⟨ck_M_takesKind, TG_at 915 (by decide +kernel) (by decide +kernel), by decide⟩
theorem vk_M_takesKind : VirK k_M_takesKind 1 := ⟨ik_M_takesKind, TG_sel 42 (by decide +kernel) (by decide +kernel)⟩
theorem ck_M_planOf : CalK k_M_planOf 1 := ⟨TG_at 8 (by decide +kernel) (by decide +kernel), TG_at 920 (by decide +kernel) (by decide +kernel), by decide +kernel, ⟨by decide +kernel, by decide +kernel⟩, by decide +kernel, by decide⟩
theorem ik_M_planOf : InsK k_M_planOf 1 := ⟨ck_M_planOf, TG_at 918 (by decide +kernel) (by decide +kernel), by decide⟩
theorem vk_M_planOf : VirK k_M_planOf 1 := ⟨ik_M_planOf, TG_at 919 (by decide +kernel) (by decide +kernel)⟩
theorem ck_M_clear : CalK k_M_clear 0 := ⟨TG_at 8 (by decide +kernel) (by decide +kernel), TG_at 924 (by decide +kernel) (by decide +kernel), by decide +kernel, ⟨by decide +kernel, by decide +kernel⟩, by decide +kernel, by decide⟩
theorem ik_M_clear : InsK k_M_clear 0 := ⟨ck_M_clear, TG_at 922 (by decide +kernel) (by decide +kernel), by decide⟩
theorem vk_M_clear : VirK k_M_clear 0 := ⟨ik_M_clear, TG_at 923 (by decide +kernel) (by decide +kernel)⟩
theorem ck_M_follow : CalK k_M_follow 0 := ⟨TG_at 8 (by decide +kernel) (by decide +kernel), TG_at 928 (by decide +kernel) (by decide +kernel), by decide +kernel, ⟨by decide +kernel, by decide +kernel⟩, by decide +kernel, by decide⟩
theorem ik_M_follow : InsK k_M_follow 0 := ⟨ck_M_follow, TG_at 926 (by decide +kernel) (by decide +kernel), by decide⟩
theorem vk_M_follow : VirK k_M_follow 0 := ⟨ik_M_follow, TG_at 927 (by decide +kernel) (by decide +kernel)⟩
theorem ck_M_follows : CalK k_M_follows 0 := ⟨TG_at 8 (by decide +kernel) (by decide +kernel), TG_at 932 (by decide +kernel) (by decide +kernel), by decide +kernel, ⟨by decide +kernel, by decide +kernel⟩, by decide +kernel, by decide⟩
theorem ik_M_follows : InsK k_M_follows 0 := ⟨ck_M_follows, TG_at 931 (by decide +kernel) (by decide +kernel), by decide⟩
theorem vk_M_follows : VirK k_M_follows 0 := ⟨ik_M_follows, TG_sel 43 (by decide +kernel) (by decide +kernel)⟩
theorem ck_M_plans : CalK k_M_plans 1 := ⟨TG_at 8 (by decide +kernel) (by decide +kernel), TG_at 936 (by decide +kernel) (by decide +kernel), by decide +kernel, ⟨by decide +kernel, by decide +kernel⟩, by decide +kernel, by decide⟩
theorem ik_M_plans : InsK k_M_plans 1 := ⟨ck_M_plans, TG_at 934 (by decide +kernel) (by decide +kernel), by decide⟩
theorem vk_M_plans : VirK k_M_plans 1 := ⟨ik_M_plans, TG_at 935 (by decide +kernel) (by decide +kernel)⟩
theorem ck_M_best : CalK k_M_best 2 := ⟨TG_at 8 (by decide +kernel) (by decide +kernel), TG_at 940 (by decide +kernel) (by decide +kernel), by decide +kernel, ⟨by decide +kernel, by decide +kernel⟩, by decide +kernel, by decide⟩
theorem ik_M_best : InsK k_M_best 2 := ⟨ck_M_best, TG_at 938 (by decide +kernel) (by decide +kernel), by decide⟩
theorem vk_M_best : VirK k_M_best 2 := ⟨ik_M_best, TG_at 939 (by decide +kernel) (by decide +kernel)⟩
theorem ck_M_doesRow : CalK k_M_doesRow 2 := ⟨TG_at 8 (by decide +kernel) (by decide +kernel), TG_at 944 (by decide +kernel) (by decide +kernel), by decide +kernel, ⟨by decide +kernel, by decide +kernel⟩, by decide +kernel, by decide⟩
theorem ik_M_doesRow : InsK k_M_doesRow 2 := ⟨ck_M_doesRow, TG_at 943 (by decide +kernel) (by decide +kernel), by decide⟩
theorem vk_M_doesRow : VirK k_M_doesRow 2 := ⟨ik_M_doesRow, TG_sel 44 (by decide +kernel) (by decide +kernel)⟩
theorem ck_M_digits : CalK k_M_digits 2 := ⟨TG_at 8 (by decide +kernel) (by decide +kernel), TG_at 947 (by decide +kernel) (by decide +kernel), by decide +kernel, ⟨by decide +kernel, by decide +kernel⟩, by decide +kernel, by decide⟩
theorem sk_M_digits : StaK k_M_digits 2 := ⟨ck_M_digits, TG_at 946 (by decide +kernel) (by decide +kernel), by decide⟩
theorem ck_M_airFor : CalK k_M_airFor 1 := ⟨TG_at 8 (by decide +kernel) (by decide +kernel), TG_at 951 (by decide +kernel) (by decide +kernel), by decide +kernel, ⟨by decide +kernel, by decide +kernel⟩, by decide +kernel, by decide⟩
theorem ik_M_airFor : InsK k_M_airFor 1 := ⟨ck_M_airFor, TG_at 949 (by decide +kernel) (by decide +kernel), by decide⟩
theorem vk_M_airFor : VirK k_M_airFor 1 := ⟨ik_M_airFor, TG_at 950 (by decide +kernel) (by decide +kernel)⟩
theorem ck_M_sacksFor : CalK k_M_sacksFor 1 := ⟨TG_at 8 (by decide +kernel) (by decide +kernel), TG_at 955 (by decide +kernel) (by decide +kernel), by decide +kernel, ⟨by decide +kernel, by decide +kernel⟩, by decide +kernel, by decide⟩
theorem ik_M_sacksFor : InsK k_M_sacksFor 1 := ⟨ck_M_sacksFor, TG_at 953 (by decide +kernel) (by decide +kernel), by decide⟩
theorem vk_M_sacksFor : VirK k_M_sacksFor 1 := ⟨ik_M_sacksFor, TG_at 954 (by decide +kernel) (by decide +kernel)⟩
theorem ck_M_waterFor : CalK k_M_waterFor 0 := ⟨TG_at 8 (by decide +kernel) (by decide +kernel), TG_at 959 (by decide +kernel) (by decide +kernel), by decide +kernel, ⟨by decide +kernel, by decide +kernel⟩, by decide +kernel, by decide⟩
theorem ik_M_waterFor : InsK k_M_waterFor 0 := ⟨ck_M_waterFor, TG_at 957 (by decide +kernel) (by decide +kernel), by decide⟩
theorem vk_M_waterFor : VirK k_M_waterFor 0 := ⟨ik_M_waterFor, TG_at 958 (by decide +kernel) (by decide +kernel)⟩
theorem ck_M_boardsFor : CalK k_M_boardsFor 1 := ⟨TG_at 8 (by decide +kernel) (by decide +kernel), TG_at 964 (by decide +kernel) (by decide +kernel), by decide +kernel, ⟨by decide +kernel, by decide +kernel⟩, by decide +kernel, by decide⟩
theorem ik_M_boardsFor : InsK k_M_boardsFor 1 := ⟨ck_M_boardsFor, TG_at 962 (by decide +kernel) (by decide +kernel), by decide⟩
theorem vk_M_boardsFor : VirK k_M_boardsFor 1 := ⟨ik_M_boardsFor, TG_at 963 (by decide +kernel) (by decide +kernel)⟩
theorem ck_M_way : CalK k_M_way 0 := ⟨TG_at 8 (by decide +kernel) (by decide +kernel), TG_at 968 (by decide +kernel) (by decide +kernel), by decide +kernel, ⟨by decide +kernel, by decide +kernel⟩, by decide +kernel, by decide⟩
theorem ik_M_way : InsK k_M_way 0 := ⟨ck_M_way, TG_at 966 (by decide +kernel) (by decide +kernel), by decide⟩
theorem vk_M_way : VirK k_M_way 0 := ⟨ik_M_way, TG_at 967 (by decide +kernel) (by decide +kernel)⟩
theorem ck_M_odds : CalK k_M_odds 1 := ⟨TG_at 8 (by decide +kernel) (by decide +kernel), TG_at 972 (by decide +kernel) (by decide +kernel), by decide +kernel, ⟨by decide +kernel, by decide +kernel⟩, by decide +kernel, by decide⟩
theorem ik_M_odds : InsK k_M_odds 1 := ⟨ck_M_odds, TG_at 970 (by decide +kernel) (by decide +kernel), by decide⟩
theorem vk_M_odds : VirK k_M_odds 1 := ⟨ik_M_odds, TG_at 971 (by decide +kernel) (by decide +kernel)⟩
theorem ck_M_seed : CalK k_M_seed 1 := ⟨TG_at 8 (by decide +kernel) (by decide +kernel), TG_at 976 (by decide +kernel) (by decide +kernel), by decide +kernel, ⟨by decide +kernel, by decide +kernel⟩, by decide +kernel, by decide⟩
theorem ik_M_seed : InsK k_M_seed 1 := ⟨ck_M_seed, TG_at 974 (by decide +kernel) (by decide +kernel), by decide⟩
theorem vk_M_seed : VirK k_M_seed 1 := ⟨ik_M_seed, TG_at 975 (by decide +kernel) (by decide +kernel)⟩
theorem ck_M_hold : CalK k_M_hold 2 := ⟨TG_at 8 (by decide +kernel) (by decide +kernel), TG_at 980 (by decide +kernel) (by decide +kernel), by decide +kernel, ⟨by decide +kernel, by decide +kernel⟩, by decide +kernel, by decide⟩
theorem ik_M_hold : InsK k_M_hold 2 := ⟨ck_M_hold, TG_at 978 (by decide +kernel) (by decide +kernel), by decide⟩
theorem vk_M_hold : VirK k_M_hold 2 := ⟨ik_M_hold, TG_at 979 (by decide +kernel) (by decide +kernel)⟩
theorem ck_M_as : CalK k_M_as 2 := ⟨TG_at 8 (by decide +kernel) (by decide +kernel), TG_at 984 (by decide +kernel) (by decide +kernel), by decide +kernel, ⟨by decide +kernel, by decide +kernel⟩, by decide +kernel, by decide⟩
theorem ik_M_as : InsK k_M_as 2 := ⟨ck_M_as, TG_at 982 (by decide +kernel) (by decide +kernel), by decide⟩
theorem vk_M_as : VirK k_M_as 2 := ⟨ik_M_as, TG_at 983 (by decide +kernel) (by decide +kernel)⟩
theorem ck_M_isUnder : CalK k_M_isUnder 2 := ⟨TG_at 8 (by decide +kernel) (by decide +kernel), TG_at 987 (by decide +kernel) (by decide +kernel), by decide +kernel, ⟨by decide +kernel, by decide +kernel⟩, by decide +kernel, by decide⟩
theorem sk_M_isUnder : StaK k_M_isUnder 2 := ⟨ck_M_isUnder, TG_at 986 (by decide +kernel) (by decide +kernel), by decide⟩
theorem ck_M_sheet : CalK k_M_sheet 3 := ⟨TG_at 8 (by decide +kernel) (by decide +kernel), TG_at 991 (by decide +kernel) (by decide +kernel), by decide +kernel, ⟨by decide +kernel, by decide +kernel⟩, by decide +kernel, by decide⟩
theorem ik_M_sheet : InsK k_M_sheet 3 := ⟨ck_M_sheet, TG_at 989 (by decide +kernel) (by decide +kernel), by decide⟩
theorem vk_M_sheet : VirK k_M_sheet 3 := ⟨ik_M_sheet, TG_at 990 (by decide +kernel) (by decide +kernel)⟩
theorem ck_M_isSheet : CalK k_M_isSheet 1 := ⟨TG_at 8 (by decide +kernel) (by decide +kernel), TG_at 994 (by decide +kernel) (by decide +kernel), by decide +kernel, ⟨by decide +kernel, by decide +kernel⟩, by decide +kernel, by decide⟩
theorem sk_M_isSheet : StaK k_M_isSheet 1 := ⟨ck_M_isSheet, TG_at 993 (by decide +kernel) (by decide +kernel), by decide⟩
theorem ck_M_write : CalK k_M_write 3 := ⟨TG_at 8 (by decide +kernel) (by decide +kernel), TG_at 998 (by decide +kernel) (by decide +kernel), by decide +kernel, ⟨by decide +kernel, by decide +kernel⟩, by decide +kernel, by decide⟩
theorem ik_M_write : InsK k_M_write 3 := ⟨ck_M_write, TG_at 996 (by decide +kernel) (by decide +kernel), by decide⟩
theorem vk_M_write : VirK k_M_write 3 := ⟨ik_M_write, TG_at 997 (by decide +kernel) (by decide +kernel)⟩
theorem ck_M_copy : CalK k_M_copy 5 := ⟨TG_at 8 (by decide +kernel) (by decide +kernel), TG_at 1002 (by decide +kernel) (by decide +kernel), by decide +kernel, ⟨by decide +kernel, by decide +kernel⟩, by decide +kernel, by decide⟩
theorem ik_M_copy : InsK k_M_copy 5 := ⟨ck_M_copy, TG_at 1000 (by decide +kernel) (by decide +kernel), by decide⟩
theorem vk_M_copy : VirK k_M_copy 5 := ⟨ik_M_copy, TG_at 1001 (by decide +kernel) (by decide +kernel)⟩
theorem ck_M_load : CalK k_M_load 2 := ⟨TG_at 8 (by decide +kernel) (by decide +kernel), TG_at 1006 (by decide +kernel) (by decide +kernel), by decide +kernel, ⟨by decide +kernel, by decide +kernel⟩, by decide +kernel, by decide⟩
theorem ik_M_load : InsK k_M_load 2 := ⟨ck_M_load, TG_at 1004 (by decide +kernel) (by decide +kernel), by decide⟩
theorem vk_M_load : VirK k_M_load 2 := ⟨ik_M_load, TG_at 1005 (by decide +kernel) (by decide +kernel)⟩
theorem ck_M_lacks : CalK k_M_lacks 1 := ⟨TG_at 8 (by decide +kernel) (by decide +kernel), TG_at 1010 (by decide +kernel) (by decide +kernel), by decide +kernel, ⟨by decide +kernel, by decide +kernel⟩, by decide +kernel, by decide⟩
theorem ik_M_lacks : InsK k_M_lacks 1 := ⟨ck_M_lacks, TG_at 1009 (by decide +kernel) (by decide +kernel), by decide⟩
theorem vk_M_lacks : VirK k_M_lacks 1 := ⟨ik_M_lacks, TG_sel 45 (by decide +kernel) (by decide +kernel)⟩
theorem ck_M_judge : CalK k_M_judge 1 := ⟨TG_at 8 (by decide +kernel) (by decide +kernel), TG_at 1014 (by decide +kernel) (by decide +kernel), by decide +kernel, ⟨by decide +kernel, by decide +kernel⟩, by decide +kernel, by decide⟩
theorem ik_M_judge : InsK k_M_judge 1 := ⟨ck_M_judge, TG_at 1012 (by decide +kernel) (by decide +kernel), by decide⟩
theorem vk_M_judge : VirK k_M_judge 1 := ⟨ik_M_judge, TG_at 1013 (by decide +kernel) (by decide +kernel)⟩
theorem ck_M_image : CalK k_M_image 0 := ⟨TG_at 8 (by decide +kernel) (by decide +kernel), TG_at 1018 (by decide +kernel) (by decide +kernel), by decide +kernel, ⟨by decide +kernel, by decide +kernel⟩, by decide +kernel, by decide⟩
theorem ik_M_image : InsK k_M_image 0 := ⟨ck_M_image, TG_at 1016 (by decide +kernel) (by decide +kernel), by decide⟩
theorem vk_M_image : VirK k_M_image 0 := ⟨ik_M_image, TG_at 1017 (by decide +kernel) (by decide +kernel)⟩
theorem ck_M_undo : CalK k_M_undo 0 := ⟨TG_at 8 (by decide +kernel) (by decide +kernel), TG_at 1022 (by decide +kernel) (by decide +kernel), by decide +kernel, ⟨by decide +kernel, by decide +kernel⟩, by decide +kernel, by decide⟩
theorem ik_M_undo : InsK k_M_undo 0 := ⟨ck_M_undo, TG_at 1020 (by decide +kernel) (by decide +kernel), by decide⟩
theorem vk_M_undo : VirK k_M_undo 0 := ⟨ik_M_undo, TG_at 1021 (by decide +kernel) (by decide +kernel)⟩
theorem ck_M_tear : CalK k_M_tear 0 := ⟨TG_at 8 (by decide +kernel) (by decide +kernel), TG_at 1026 (by decide +kernel) (by decide +kernel), by decide +kernel, ⟨by decide +kernel, by decide +kernel⟩, by decide +kernel, by decide⟩
theorem ik_M_tear : InsK k_M_tear 0 := ⟨ck_M_tear, TG_at 1024 (by decide +kernel) (by decide +kernel), by decide⟩
theorem vk_M_tear : VirK k_M_tear 0 := ⟨ik_M_tear, TG_at 1025 (by decide +kernel) (by decide +kernel)⟩
theorem ck_M_count : CalK k_M_count 1 := ⟨TG_at 8 (by decide +kernel) (by decide +kernel), TG_at 1030 (by decide +kernel) (by decide +kernel), by decide +kernel, ⟨by decide +kernel, by decide +kernel⟩, by decide +kernel, by decide⟩
theorem ik_M_count : InsK k_M_count 1 := ⟨ck_M_count, TG_at 1028 (by decide +kernel) (by decide +kernel), by decide⟩
theorem vk_M_count : VirK k_M_count 1 := ⟨ik_M_count, TG_at 1029 (by decide +kernel) (by decide +kernel)⟩
theorem ck_M_told : CalK k_M_told 2 := ⟨TG_at 8 (by decide +kernel) (by decide +kernel), TG_at 1034 (by decide +kernel) (by decide +kernel), by decide +kernel, ⟨by decide +kernel, by decide +kernel⟩, by decide +kernel, by decide⟩
theorem ik_M_told : InsK k_M_told 2 := ⟨ck_M_told, TG_at 1033 (by decide +kernel) (by decide +kernel), by decide⟩
theorem vk_M_told : VirK k_M_told 2 := ⟨ik_M_told, TG_sel 46 (by decide +kernel) (by decide +kernel)⟩
theorem ck_M_status : CalK k_M_status 1 := ⟨TG_at 8 (by decide +kernel) (by decide +kernel), TG_at 1038 (by decide +kernel) (by decide +kernel), by decide +kernel, ⟨by decide +kernel, by decide +kernel⟩, by decide +kernel, by decide⟩
theorem ik_M_status : InsK k_M_status 1 := ⟨ck_M_status, TG_at 1036 (by decide +kernel) (by decide +kernel), by decide⟩
theorem vk_M_status : VirK k_M_status 1 := ⟨ik_M_status, TG_at 1037 (by decide +kernel) (by decide +kernel)⟩
theorem il_0_3 : inb 0 3 = true ∧ (0 : Int32).toNatClampNeg = 0 := by decide
theorem il_1_3 : inb 1 3 = true ∧ (1 : Int32).toNatClampNeg = 1 := by decide
theorem il_2_3 : inb 2 3 = true ∧ (2 : Int32).toNatClampNeg = 2 := by decide
theorem il_0_4 : inb 0 4 = true ∧ (0 : Int32).toNatClampNeg = 0 := by decide
theorem il_1_4 : inb 1 4 = true ∧ (1 : Int32).toNatClampNeg = 1 := by decide
theorem il_2_4 : inb 2 4 = true ∧ (2 : Int32).toNatClampNeg = 2 := by decide
theorem il_3_4 : inb 3 4 = true ∧ (3 : Int32).toNatClampNeg = 3 := by decide
theorem il_0_7 : inb 0 7 = true ∧ (0 : Int32).toNatClampNeg = 0 := by decide
theorem il_1_7 : inb 1 7 = true ∧ (1 : Int32).toNatClampNeg = 1 := by decide
theorem il_2_7 : inb 2 7 = true ∧ (2 : Int32).toNatClampNeg = 2 := by decide
theorem il_3_7 : inb 3 7 = true ∧ (3 : Int32).toNatClampNeg = 3 := by decide
theorem il_4_7 : inb 4 7 = true ∧ (4 : Int32).toNatClampNeg = 4 := by decide
theorem il_5_7 : inb 5 7 = true ∧ (5 : Int32).toNatClampNeg = 5 := by decide
theorem il_6_7 : inb 6 7 = true ∧ (6 : Int32).toNatClampNeg = 6 := by decide
theorem il_0_10 : inb 0 10 = true ∧ (0 : Int32).toNatClampNeg = 0 := by decide
theorem il_1_10 : inb 1 10 = true ∧ (1 : Int32).toNatClampNeg = 1 := by decide
theorem il_2_10 : inb 2 10 = true ∧ (2 : Int32).toNatClampNeg = 2 := by decide
theorem il_3_10 : inb 3 10 = true ∧ (3 : Int32).toNatClampNeg = 3 := by decide
theorem il_4_10 : inb 4 10 = true ∧ (4 : Int32).toNatClampNeg = 4 := by decide
theorem il_5_10 : inb 5 10 = true ∧ (5 : Int32).toNatClampNeg = 5 := by decide
theorem il_6_10 : inb 6 10 = true ∧ (6 : Int32).toNatClampNeg = 6 := by decide
theorem il_7_10 : inb 7 10 = true ∧ (7 : Int32).toNatClampNeg = 7 := by decide
theorem il_8_10 : inb 8 10 = true ∧ (8 : Int32).toNatClampNeg = 8 := by decide
theorem il_9_10 : inb 9 10 = true ∧ (9 : Int32).toNatClampNeg = 9 := by decide
theorem il_0_20 : inb 0 20 = true ∧ (0 : Int32).toNatClampNeg = 0 := by decide
theorem il_1_20 : inb 1 20 = true ∧ (1 : Int32).toNatClampNeg = 1 := by decide
theorem il_2_20 : inb 2 20 = true ∧ (2 : Int32).toNatClampNeg = 2 := by decide
theorem il_3_20 : inb 3 20 = true ∧ (3 : Int32).toNatClampNeg = 3 := by decide
theorem il_4_20 : inb 4 20 = true ∧ (4 : Int32).toNatClampNeg = 4 := by decide
theorem il_5_20 : inb 5 20 = true ∧ (5 : Int32).toNatClampNeg = 5 := by decide
theorem il_6_20 : inb 6 20 = true ∧ (6 : Int32).toNatClampNeg = 6 := by decide
theorem il_7_20 : inb 7 20 = true ∧ (7 : Int32).toNatClampNeg = 7 := by decide
theorem il_8_20 : inb 8 20 = true ∧ (8 : Int32).toNatClampNeg = 8 := by decide
theorem il_9_20 : inb 9 20 = true ∧ (9 : Int32).toNatClampNeg = 9 := by decide
theorem il_10_20 : inb 10 20 = true ∧ (10 : Int32).toNatClampNeg = 10 := by decide
theorem il_11_20 : inb 11 20 = true ∧ (11 : Int32).toNatClampNeg = 11 := by decide
theorem il_12_20 : inb 12 20 = true ∧ (12 : Int32).toNatClampNeg = 12 := by decide
theorem il_13_20 : inb 13 20 = true ∧ (13 : Int32).toNatClampNeg = 13 := by decide
theorem il_14_20 : inb 14 20 = true ∧ (14 : Int32).toNatClampNeg = 14 := by decide
theorem il_15_20 : inb 15 20 = true ∧ (15 : Int32).toNatClampNeg = 15 := by decide
theorem il_16_20 : inb 16 20 = true ∧ (16 : Int32).toNatClampNeg = 16 := by decide
theorem il_17_20 : inb 17 20 = true ∧ (17 : Int32).toNatClampNeg = 17 := by decide
theorem il_18_20 : inb 18 20 = true ∧ (18 : Int32).toNatClampNeg = 18 := by decide
theorem il_19_20 : inb 19 20 = true ∧ (19 : Int32).toNatClampNeg = 19 := by decide
theorem il_0_92 : inb 0 92 = true ∧ (0 : Int32).toNatClampNeg = 0 := by decide
theorem il_1_92 : inb 1 92 = true ∧ (1 : Int32).toNatClampNeg = 1 := by decide
theorem il_2_92 : inb 2 92 = true ∧ (2 : Int32).toNatClampNeg = 2 := by decide
theorem il_3_92 : inb 3 92 = true ∧ (3 : Int32).toNatClampNeg = 3 := by decide
theorem il_4_92 : inb 4 92 = true ∧ (4 : Int32).toNatClampNeg = 4 := by decide
theorem il_5_92 : inb 5 92 = true ∧ (5 : Int32).toNatClampNeg = 5 := by decide
theorem il_6_92 : inb 6 92 = true ∧ (6 : Int32).toNatClampNeg = 6 := by decide
theorem il_7_92 : inb 7 92 = true ∧ (7 : Int32).toNatClampNeg = 7 := by decide
theorem il_8_92 : inb 8 92 = true ∧ (8 : Int32).toNatClampNeg = 8 := by decide
theorem il_9_92 : inb 9 92 = true ∧ (9 : Int32).toNatClampNeg = 9 := by decide
theorem il_10_92 : inb 10 92 = true ∧ (10 : Int32).toNatClampNeg = 10 := by decide
theorem il_11_92 : inb 11 92 = true ∧ (11 : Int32).toNatClampNeg = 11 := by decide
theorem il_12_92 : inb 12 92 = true ∧ (12 : Int32).toNatClampNeg = 12 := by decide
theorem il_13_92 : inb 13 92 = true ∧ (13 : Int32).toNatClampNeg = 13 := by decide
theorem il_14_92 : inb 14 92 = true ∧ (14 : Int32).toNatClampNeg = 14 := by decide
theorem il_15_92 : inb 15 92 = true ∧ (15 : Int32).toNatClampNeg = 15 := by decide
theorem il_16_92 : inb 16 92 = true ∧ (16 : Int32).toNatClampNeg = 16 := by decide
theorem il_17_92 : inb 17 92 = true ∧ (17 : Int32).toNatClampNeg = 17 := by decide
theorem il_18_92 : inb 18 92 = true ∧ (18 : Int32).toNatClampNeg = 18 := by decide
theorem il_19_92 : inb 19 92 = true ∧ (19 : Int32).toNatClampNeg = 19 := by decide
theorem il_20_92 : inb 20 92 = true ∧ (20 : Int32).toNatClampNeg = 20 := by decide
theorem il_21_92 : inb 21 92 = true ∧ (21 : Int32).toNatClampNeg = 21 := by decide
theorem il_22_92 : inb 22 92 = true ∧ (22 : Int32).toNatClampNeg = 22 := by decide
theorem il_23_92 : inb 23 92 = true ∧ (23 : Int32).toNatClampNeg = 23 := by decide
theorem il_24_92 : inb 24 92 = true ∧ (24 : Int32).toNatClampNeg = 24 := by decide
theorem il_25_92 : inb 25 92 = true ∧ (25 : Int32).toNatClampNeg = 25 := by decide
theorem il_26_92 : inb 26 92 = true ∧ (26 : Int32).toNatClampNeg = 26 := by decide
theorem il_27_92 : inb 27 92 = true ∧ (27 : Int32).toNatClampNeg = 27 := by decide
theorem il_28_92 : inb 28 92 = true ∧ (28 : Int32).toNatClampNeg = 28 := by decide
theorem il_29_92 : inb 29 92 = true ∧ (29 : Int32).toNatClampNeg = 29 := by decide
theorem il_30_92 : inb 30 92 = true ∧ (30 : Int32).toNatClampNeg = 30 := by decide
theorem il_31_92 : inb 31 92 = true ∧ (31 : Int32).toNatClampNeg = 31 := by decide
theorem il_32_92 : inb 32 92 = true ∧ (32 : Int32).toNatClampNeg = 32 := by decide
theorem il_33_92 : inb 33 92 = true ∧ (33 : Int32).toNatClampNeg = 33 := by decide
theorem il_34_92 : inb 34 92 = true ∧ (34 : Int32).toNatClampNeg = 34 := by decide
theorem il_35_92 : inb 35 92 = true ∧ (35 : Int32).toNatClampNeg = 35 := by decide
theorem il_36_92 : inb 36 92 = true ∧ (36 : Int32).toNatClampNeg = 36 := by decide
theorem il_37_92 : inb 37 92 = true ∧ (37 : Int32).toNatClampNeg = 37 := by decide
theorem il_38_92 : inb 38 92 = true ∧ (38 : Int32).toNatClampNeg = 38 := by decide
theorem il_39_92 : inb 39 92 = true ∧ (39 : Int32).toNatClampNeg = 39 := by decide
theorem il_40_92 : inb 40 92 = true ∧ (40 : Int32).toNatClampNeg = 40 := by decide
theorem il_41_92 : inb 41 92 = true ∧ (41 : Int32).toNatClampNeg = 41 := by decide
theorem il_42_92 : inb 42 92 = true ∧ (42 : Int32).toNatClampNeg = 42 := by decide
theorem il_43_92 : inb 43 92 = true ∧ (43 : Int32).toNatClampNeg = 43 := by decide
theorem il_44_92 : inb 44 92 = true ∧ (44 : Int32).toNatClampNeg = 44 := by decide
theorem il_45_92 : inb 45 92 = true ∧ (45 : Int32).toNatClampNeg = 45 := by decide
theorem il_46_92 : inb 46 92 = true ∧ (46 : Int32).toNatClampNeg = 46 := by decide
theorem il_47_92 : inb 47 92 = true ∧ (47 : Int32).toNatClampNeg = 47 := by decide
theorem il_48_92 : inb 48 92 = true ∧ (48 : Int32).toNatClampNeg = 48 := by decide
theorem il_49_92 : inb 49 92 = true ∧ (49 : Int32).toNatClampNeg = 49 := by decide
theorem il_50_92 : inb 50 92 = true ∧ (50 : Int32).toNatClampNeg = 50 := by decide
theorem il_51_92 : inb 51 92 = true ∧ (51 : Int32).toNatClampNeg = 51 := by decide
theorem il_52_92 : inb 52 92 = true ∧ (52 : Int32).toNatClampNeg = 52 := by decide
theorem il_53_92 : inb 53 92 = true ∧ (53 : Int32).toNatClampNeg = 53 := by decide
theorem il_54_92 : inb 54 92 = true ∧ (54 : Int32).toNatClampNeg = 54 := by decide
theorem il_55_92 : inb 55 92 = true ∧ (55 : Int32).toNatClampNeg = 55 := by decide
theorem il_56_92 : inb 56 92 = true ∧ (56 : Int32).toNatClampNeg = 56 := by decide
theorem il_57_92 : inb 57 92 = true ∧ (57 : Int32).toNatClampNeg = 57 := by decide
theorem il_58_92 : inb 58 92 = true ∧ (58 : Int32).toNatClampNeg = 58 := by decide
theorem il_59_92 : inb 59 92 = true ∧ (59 : Int32).toNatClampNeg = 59 := by decide
theorem il_60_92 : inb 60 92 = true ∧ (60 : Int32).toNatClampNeg = 60 := by decide
theorem il_61_92 : inb 61 92 = true ∧ (61 : Int32).toNatClampNeg = 61 := by decide
theorem il_62_92 : inb 62 92 = true ∧ (62 : Int32).toNatClampNeg = 62 := by decide
theorem il_63_92 : inb 63 92 = true ∧ (63 : Int32).toNatClampNeg = 63 := by decide
theorem il_64_92 : inb 64 92 = true ∧ (64 : Int32).toNatClampNeg = 64 := by decide
theorem il_65_92 : inb 65 92 = true ∧ (65 : Int32).toNatClampNeg = 65 := by decide
theorem il_66_92 : inb 66 92 = true ∧ (66 : Int32).toNatClampNeg = 66 := by decide
theorem il_67_92 : inb 67 92 = true ∧ (67 : Int32).toNatClampNeg = 67 := by decide
theorem il_68_92 : inb 68 92 = true ∧ (68 : Int32).toNatClampNeg = 68 := by decide
theorem il_69_92 : inb 69 92 = true ∧ (69 : Int32).toNatClampNeg = 69 := by decide
theorem il_70_92 : inb 70 92 = true ∧ (70 : Int32).toNatClampNeg = 70 := by decide
theorem il_71_92 : inb 71 92 = true ∧ (71 : Int32).toNatClampNeg = 71 := by decide
theorem il_72_92 : inb 72 92 = true ∧ (72 : Int32).toNatClampNeg = 72 := by decide
theorem il_73_92 : inb 73 92 = true ∧ (73 : Int32).toNatClampNeg = 73 := by decide
theorem il_74_92 : inb 74 92 = true ∧ (74 : Int32).toNatClampNeg = 74 := by decide
theorem il_75_92 : inb 75 92 = true ∧ (75 : Int32).toNatClampNeg = 75 := by decide
theorem il_76_92 : inb 76 92 = true ∧ (76 : Int32).toNatClampNeg = 76 := by decide
theorem il_77_92 : inb 77 92 = true ∧ (77 : Int32).toNatClampNeg = 77 := by decide
theorem il_78_92 : inb 78 92 = true ∧ (78 : Int32).toNatClampNeg = 78 := by decide
theorem il_79_92 : inb 79 92 = true ∧ (79 : Int32).toNatClampNeg = 79 := by decide
theorem il_80_92 : inb 80 92 = true ∧ (80 : Int32).toNatClampNeg = 80 := by decide
theorem il_81_92 : inb 81 92 = true ∧ (81 : Int32).toNatClampNeg = 81 := by decide
theorem il_82_92 : inb 82 92 = true ∧ (82 : Int32).toNatClampNeg = 82 := by decide
theorem il_83_92 : inb 83 92 = true ∧ (83 : Int32).toNatClampNeg = 83 := by decide
theorem il_84_92 : inb 84 92 = true ∧ (84 : Int32).toNatClampNeg = 84 := by decide
theorem il_85_92 : inb 85 92 = true ∧ (85 : Int32).toNatClampNeg = 85 := by decide
theorem il_86_92 : inb 86 92 = true ∧ (86 : Int32).toNatClampNeg = 86 := by decide
theorem il_87_92 : inb 87 92 = true ∧ (87 : Int32).toNatClampNeg = 87 := by decide
theorem il_88_92 : inb 88 92 = true ∧ (88 : Int32).toNatClampNeg = 88 := by decide
theorem il_89_92 : inb 89 92 = true ∧ (89 : Int32).toNatClampNeg = 89 := by decide
theorem il_90_92 : inb 90 92 = true ∧ (90 : Int32).toNatClampNeg = 90 := by decide
theorem il_91_92 : inb 91 92 = true ∧ (91 : Int32).toNatClampNeg = 91 := by decide
end
section
def bI (b : Bool) : Int32 := if b = true then 1 else 0
theorem bI_narrow (b : Bool) : narrow .boolean (.int (bI b)) = .int (bI b) := by cases b <;> rfl
def eB (q : Bool × St) : Option Value × St := (some (.int (bI q.1)), q.2)
theorem ne32 {x v : Int32} {n : Int} (h : ¬ x = v) (hv : v.toInt = n) : x.toInt ≠ n := fun e => h (Int32.toInt_inj.mp (e.trans hv.symm))
section G2
variable {α : Type} {emb : α → Option Value × St} {X : xC} {k : Mth} {d pc pc' tgt jn : Nat} {ls : List (Option Value)} {st : List Value} {S : St} {f f2 : Option α}
theorem g_zreturn {f : Option (Bool × St)} {v : Int32} {b : Bool} (hd : decode k.2.1 pc = .ok (.ireturn, 1)) (ht : k.2.2.2 = some .boolean) (hv : v = bI b) (hf : f = some (b, S)) : SemG eB X k d pc ls [.int v] S f := by
  subst hf
  subst hv
  intro a h
  cases h
  exact ev_ireturn hd ht (bI_narrow b)
theorem g_fold {x y : Int32} (h : x = y) (kk : SemG emb X k d pc ls (.int y :: st) S f) : SemG emb X k d pc ls (.int x :: st) S f := by
  subst h
  exact kk
theorem g_drop (j : Nat) (kk : SemG emb X k d pc (ls.set j none) st S f) : SemG emb X k d pc ls st S f := by
  intro a ha p l e R s m args below meth c C H locs cells slots hW hS hc hs la hl
  refine kk a ha p l e R s m args below meth c C H locs cells slots hW hS hc hs la ⟨hl.1, fun i v hi => ?_⟩
  by_cases hij : i = j
  · subst hij
    by_cases hlt : i < ls.length
    · rw [List.getElem?_set_self hlt] at hi
      cases hi
    · rw [List.getElem?_eq_none (by simpa using hlt)] at hi
      cases hi
  · rw [List.getElem?_set_ne (Ne.symm hij)] at hi
    exact hl.2 i v hi
theorem g_tcase {dflt lo hi : Int} {offs : Array Int} {len : Nat} {x v : Int32} {off : Int} (hd : decode k.2.1 pc = .ok (.tableswitch dflt lo hi offs, len)) (hx : x = v) (hc : ¬ v.toInt < lo ∧ ¬ hi < v.toInt ∧ offs[(v.toInt - lo).toNat]? = some off ∧ (pc : Int) + off = (tgt : Int)) (kk : SemG emb X k d tgt ls st S f) : SemG emb X k d pc ls (.int x :: st) S f := by
  subst hx
  exact fun a ha => ev_table_in hd hc.1 hc.2.1 hc.2.2.1 hc.2.2.2 (kk a ha)
theorem g_tdef {dflt lo hi : Int} {offs : Array Int} {len : Nat} {x : Int32} (hd : decode k.2.1 pc = .ok (.tableswitch dflt lo hi offs, len)) (h : x.toInt < lo ∨ hi < x.toInt) (ht : (pc : Int) + dflt = (tgt : Int)) (kk : SemG emb X k d tgt ls st S f) : SemG emb X k d pc ls (.int x :: st) S f := fun a ha => ev_table_out hd h ht (kk a ha)
theorem g_lcase {dflt : Int} {ps : Array (Int × Int)} {len : Nat} {x v : Int32} {off : Int} (hd : decode k.2.1 pc = .ok (.lookupswitch dflt ps, len)) (hx : x = v) (hc : (ps.toList.zip (ps.toList.drop 1)).all (fun (a, next) => a.1 < next.1) = true ∧ Op.lookupswitch.offset ps.toList dflt v.toInt = off ∧ (pc : Int) + off = (tgt : Int)) (kk : SemG emb X k d tgt ls st S f) : SemG emb X k d pc ls (.int x :: st) S f := by
  subst hx
  exact fun a ha => ev_lookup hd hc.1 hc.2.1 hc.2.2 (kk a ha)
theorem g_ldef2 {dflt a1 o1 a2 o2 : Int} {len : Nat} {x : Int32} (hd : decode k.2.1 pc = .ok (.lookupswitch dflt #[(a1, o1), (a2, o2)], len)) (h1 : x.toInt ≠ a1) (h2 : x.toInt ≠ a2) (hp : a1 < a2) (ht : (pc : Int) + dflt = (tgt : Int)) (kk : SemG emb X k d tgt ls st S f) : SemG emb X k d pc ls (.int x :: st) S f :=
  fun a ha => ev_lookup hd (by simp [hp]) (by simp [Op.lookupswitch.offset, Ne.symm h1, Ne.symm h2]) ht (kk a ha)
theorem s_icmp_eq {x y : Int32} {off : Int} (hd : dJ k.2.1 pc (.if_icmp .eq off) off pc' tgt) (kt : x = y → SemG emb X k d tgt ls st S f) (kf : ¬ x = y → SemG emb X k d pc' ls st S f2) : SemG emb X k d pc ls (.int y :: .int x :: st) S (if x = y then f else f2) := fun a ha => ev_icmp_eq hd (fun h => kt h a (by rw [if_pos h] at ha; exact ha)) (fun h => kf h a (by rw [if_neg h] at ha; exact ha))
theorem m_icmp_eq {x y : Int32} {v1 v2 : Int32} {off : Int} (hd : dJ k.2.1 pc (.if_icmp .eq off) off pc' tgt) (kt : SemG emb X k d jn ls (.int v1 :: st) S f → SemG emb X k d tgt ls st S f) (kf : SemG emb X k d jn ls (.int v2 :: st) S f → SemG emb X k d pc' ls st S f) (J : SemG emb X k d jn ls (.int (if x = y then v1 else v2) :: st) S f) : SemG emb X k d pc ls (.int y :: .int x :: st) S f := fun a ha => ev_icmp_eq hd (fun h => kt (by rw [if_pos h] at J; exact J) a ha) (fun h => kf (by rw [if_neg h] at J; exact J) a ha)
theorem s_if_eq {x : Int32} {off : Int} (hd : dJ k.2.1 pc (.ifCond .eq off) off pc' tgt) (kt : x = 0 → SemG emb X k d tgt ls st S f) (kf : ¬ x = 0 → SemG emb X k d pc' ls st S f2) : SemG emb X k d pc ls (.int x :: st) S (if x = 0 then f else f2) := fun a ha => ev_if_eq hd (fun h => kt h a (by rw [if_pos h] at ha; exact ha)) (fun h => kf h a (by rw [if_neg h] at ha; exact ha))
theorem m_if_eq {x : Int32} {v1 v2 : Int32} {off : Int} (hd : dJ k.2.1 pc (.ifCond .eq off) off pc' tgt) (kt : SemG emb X k d jn ls (.int v1 :: st) S f → SemG emb X k d tgt ls st S f) (kf : SemG emb X k d jn ls (.int v2 :: st) S f → SemG emb X k d pc' ls st S f) (J : SemG emb X k d jn ls (.int (if x = 0 then v1 else v2) :: st) S f) : SemG emb X k d pc ls (.int x :: st) S f := fun a ha => ev_if_eq hd (fun h => kt (by rw [if_pos h] at J; exact J) a ha) (fun h => kf (by rw [if_neg h] at J; exact J) a ha)
theorem s_icmp_ne {x y : Int32} {off : Int} (hd : dJ k.2.1 pc (.if_icmp .ne off) off pc' tgt) (kt : ¬ x = y → SemG emb X k d tgt ls st S f2) (kf : x = y → SemG emb X k d pc' ls st S f) : SemG emb X k d pc ls (.int y :: .int x :: st) S (if x = y then f else f2) := fun a ha => ev_icmp_ne hd (fun h => kt h a (by rw [if_neg h] at ha; exact ha)) (fun h => kf h a (by rw [if_pos h] at ha; exact ha))
theorem m_icmp_ne {x y : Int32} {v1 v2 : Int32} {off : Int} (hd : dJ k.2.1 pc (.if_icmp .ne off) off pc' tgt) (kt : SemG emb X k d jn ls (.int v2 :: st) S f → SemG emb X k d tgt ls st S f) (kf : SemG emb X k d jn ls (.int v1 :: st) S f → SemG emb X k d pc' ls st S f) (J : SemG emb X k d jn ls (.int (if x = y then v1 else v2) :: st) S f) : SemG emb X k d pc ls (.int y :: .int x :: st) S f := fun a ha => ev_icmp_ne hd (fun h => kt (by rw [if_neg h] at J; exact J) a ha) (fun h => kf (by rw [if_pos h] at J; exact J) a ha)
theorem s_if_ne {x : Int32} {off : Int} (hd : dJ k.2.1 pc (.ifCond .ne off) off pc' tgt) (kt : ¬ x = 0 → SemG emb X k d tgt ls st S f2) (kf : x = 0 → SemG emb X k d pc' ls st S f) : SemG emb X k d pc ls (.int x :: st) S (if x = 0 then f else f2) := fun a ha => ev_if_ne hd (fun h => kt h a (by rw [if_neg h] at ha; exact ha)) (fun h => kf h a (by rw [if_pos h] at ha; exact ha))
theorem m_if_ne {x : Int32} {v1 v2 : Int32} {off : Int} (hd : dJ k.2.1 pc (.ifCond .ne off) off pc' tgt) (kt : SemG emb X k d jn ls (.int v2 :: st) S f → SemG emb X k d tgt ls st S f) (kf : SemG emb X k d jn ls (.int v1 :: st) S f → SemG emb X k d pc' ls st S f) (J : SemG emb X k d jn ls (.int (if x = 0 then v1 else v2) :: st) S f) : SemG emb X k d pc ls (.int x :: st) S f := fun a ha => ev_if_ne hd (fun h => kt (by rw [if_neg h] at J; exact J) a ha) (fun h => kf (by rw [if_pos h] at J; exact J) a ha)
theorem s_icmp_lt {x y : Int32} {off : Int} (hd : dJ k.2.1 pc (.if_icmp .lt off) off pc' tgt) (kt : x < y → SemG emb X k d tgt ls st S f) (kf : ¬ x < y → SemG emb X k d pc' ls st S f2) : SemG emb X k d pc ls (.int y :: .int x :: st) S (if x < y then f else f2) := fun a ha => ev_icmp_lt hd (fun h => kt h a (by rw [if_pos h] at ha; exact ha)) (fun h => kf h a (by rw [if_neg h] at ha; exact ha))
theorem m_icmp_lt {x y : Int32} {v1 v2 : Int32} {off : Int} (hd : dJ k.2.1 pc (.if_icmp .lt off) off pc' tgt) (kt : SemG emb X k d jn ls (.int v1 :: st) S f → SemG emb X k d tgt ls st S f) (kf : SemG emb X k d jn ls (.int v2 :: st) S f → SemG emb X k d pc' ls st S f) (J : SemG emb X k d jn ls (.int (if x < y then v1 else v2) :: st) S f) : SemG emb X k d pc ls (.int y :: .int x :: st) S f := fun a ha => ev_icmp_lt hd (fun h => kt (by rw [if_pos h] at J; exact J) a ha) (fun h => kf (by rw [if_neg h] at J; exact J) a ha)
theorem s_if_lt {x : Int32} {off : Int} (hd : dJ k.2.1 pc (.ifCond .lt off) off pc' tgt) (kt : x < 0 → SemG emb X k d tgt ls st S f) (kf : ¬ x < 0 → SemG emb X k d pc' ls st S f2) : SemG emb X k d pc ls (.int x :: st) S (if x < 0 then f else f2) := fun a ha => ev_if_lt hd (fun h => kt h a (by rw [if_pos h] at ha; exact ha)) (fun h => kf h a (by rw [if_neg h] at ha; exact ha))
theorem m_if_lt {x : Int32} {v1 v2 : Int32} {off : Int} (hd : dJ k.2.1 pc (.ifCond .lt off) off pc' tgt) (kt : SemG emb X k d jn ls (.int v1 :: st) S f → SemG emb X k d tgt ls st S f) (kf : SemG emb X k d jn ls (.int v2 :: st) S f → SemG emb X k d pc' ls st S f) (J : SemG emb X k d jn ls (.int (if x < 0 then v1 else v2) :: st) S f) : SemG emb X k d pc ls (.int x :: st) S f := fun a ha => ev_if_lt hd (fun h => kt (by rw [if_pos h] at J; exact J) a ha) (fun h => kf (by rw [if_neg h] at J; exact J) a ha)
theorem s_icmp_ge {x y : Int32} {off : Int} (hd : dJ k.2.1 pc (.if_icmp .ge off) off pc' tgt) (kt : y ≤ x → SemG emb X k d tgt ls st S f) (kf : ¬ y ≤ x → SemG emb X k d pc' ls st S f2) : SemG emb X k d pc ls (.int y :: .int x :: st) S (if y ≤ x then f else f2) := fun a ha => ev_icmp_ge hd (fun h => kt h a (by rw [if_pos h] at ha; exact ha)) (fun h => kf h a (by rw [if_neg h] at ha; exact ha))
theorem m_icmp_ge {x y : Int32} {v1 v2 : Int32} {off : Int} (hd : dJ k.2.1 pc (.if_icmp .ge off) off pc' tgt) (kt : SemG emb X k d jn ls (.int v1 :: st) S f → SemG emb X k d tgt ls st S f) (kf : SemG emb X k d jn ls (.int v2 :: st) S f → SemG emb X k d pc' ls st S f) (J : SemG emb X k d jn ls (.int (if y ≤ x then v1 else v2) :: st) S f) : SemG emb X k d pc ls (.int y :: .int x :: st) S f := fun a ha => ev_icmp_ge hd (fun h => kt (by rw [if_pos h] at J; exact J) a ha) (fun h => kf (by rw [if_neg h] at J; exact J) a ha)
theorem s_if_ge {x : Int32} {off : Int} (hd : dJ k.2.1 pc (.ifCond .ge off) off pc' tgt) (kt : 0 ≤ x → SemG emb X k d tgt ls st S f) (kf : ¬ 0 ≤ x → SemG emb X k d pc' ls st S f2) : SemG emb X k d pc ls (.int x :: st) S (if 0 ≤ x then f else f2) := fun a ha => ev_if_ge hd (fun h => kt h a (by rw [if_pos h] at ha; exact ha)) (fun h => kf h a (by rw [if_neg h] at ha; exact ha))
theorem m_if_ge {x : Int32} {v1 v2 : Int32} {off : Int} (hd : dJ k.2.1 pc (.ifCond .ge off) off pc' tgt) (kt : SemG emb X k d jn ls (.int v1 :: st) S f → SemG emb X k d tgt ls st S f) (kf : SemG emb X k d jn ls (.int v2 :: st) S f → SemG emb X k d pc' ls st S f) (J : SemG emb X k d jn ls (.int (if 0 ≤ x then v1 else v2) :: st) S f) : SemG emb X k d pc ls (.int x :: st) S f := fun a ha => ev_if_ge hd (fun h => kt (by rw [if_pos h] at J; exact J) a ha) (fun h => kf (by rw [if_neg h] at J; exact J) a ha)
theorem s_icmp_gt {x y : Int32} {off : Int} (hd : dJ k.2.1 pc (.if_icmp .gt off) off pc' tgt) (kt : y < x → SemG emb X k d tgt ls st S f) (kf : ¬ y < x → SemG emb X k d pc' ls st S f2) : SemG emb X k d pc ls (.int y :: .int x :: st) S (if y < x then f else f2) := fun a ha => ev_icmp_gt hd (fun h => kt h a (by rw [if_pos h] at ha; exact ha)) (fun h => kf h a (by rw [if_neg h] at ha; exact ha))
theorem m_icmp_gt {x y : Int32} {v1 v2 : Int32} {off : Int} (hd : dJ k.2.1 pc (.if_icmp .gt off) off pc' tgt) (kt : SemG emb X k d jn ls (.int v1 :: st) S f → SemG emb X k d tgt ls st S f) (kf : SemG emb X k d jn ls (.int v2 :: st) S f → SemG emb X k d pc' ls st S f) (J : SemG emb X k d jn ls (.int (if y < x then v1 else v2) :: st) S f) : SemG emb X k d pc ls (.int y :: .int x :: st) S f := fun a ha => ev_icmp_gt hd (fun h => kt (by rw [if_pos h] at J; exact J) a ha) (fun h => kf (by rw [if_neg h] at J; exact J) a ha)
theorem s_if_gt {x : Int32} {off : Int} (hd : dJ k.2.1 pc (.ifCond .gt off) off pc' tgt) (kt : 0 < x → SemG emb X k d tgt ls st S f) (kf : ¬ 0 < x → SemG emb X k d pc' ls st S f2) : SemG emb X k d pc ls (.int x :: st) S (if 0 < x then f else f2) := fun a ha => ev_if_gt hd (fun h => kt h a (by rw [if_pos h] at ha; exact ha)) (fun h => kf h a (by rw [if_neg h] at ha; exact ha))
theorem m_if_gt {x : Int32} {v1 v2 : Int32} {off : Int} (hd : dJ k.2.1 pc (.ifCond .gt off) off pc' tgt) (kt : SemG emb X k d jn ls (.int v1 :: st) S f → SemG emb X k d tgt ls st S f) (kf : SemG emb X k d jn ls (.int v2 :: st) S f → SemG emb X k d pc' ls st S f) (J : SemG emb X k d jn ls (.int (if 0 < x then v1 else v2) :: st) S f) : SemG emb X k d pc ls (.int x :: st) S f := fun a ha => ev_if_gt hd (fun h => kt (by rw [if_pos h] at J; exact J) a ha) (fun h => kf (by rw [if_neg h] at J; exact J) a ha)
theorem s_icmp_le {x y : Int32} {off : Int} (hd : dJ k.2.1 pc (.if_icmp .le off) off pc' tgt) (kt : x ≤ y → SemG emb X k d tgt ls st S f) (kf : ¬ x ≤ y → SemG emb X k d pc' ls st S f2) : SemG emb X k d pc ls (.int y :: .int x :: st) S (if x ≤ y then f else f2) := fun a ha => ev_icmp_le hd (fun h => kt h a (by rw [if_pos h] at ha; exact ha)) (fun h => kf h a (by rw [if_neg h] at ha; exact ha))
theorem m_icmp_le {x y : Int32} {v1 v2 : Int32} {off : Int} (hd : dJ k.2.1 pc (.if_icmp .le off) off pc' tgt) (kt : SemG emb X k d jn ls (.int v1 :: st) S f → SemG emb X k d tgt ls st S f) (kf : SemG emb X k d jn ls (.int v2 :: st) S f → SemG emb X k d pc' ls st S f) (J : SemG emb X k d jn ls (.int (if x ≤ y then v1 else v2) :: st) S f) : SemG emb X k d pc ls (.int y :: .int x :: st) S f := fun a ha => ev_icmp_le hd (fun h => kt (by rw [if_pos h] at J; exact J) a ha) (fun h => kf (by rw [if_neg h] at J; exact J) a ha)
theorem s_if_le {x : Int32} {off : Int} (hd : dJ k.2.1 pc (.ifCond .le off) off pc' tgt) (kt : x ≤ 0 → SemG emb X k d tgt ls st S f) (kf : ¬ x ≤ 0 → SemG emb X k d pc' ls st S f2) : SemG emb X k d pc ls (.int x :: st) S (if x ≤ 0 then f else f2) := fun a ha => ev_if_le hd (fun h => kt h a (by rw [if_pos h] at ha; exact ha)) (fun h => kf h a (by rw [if_neg h] at ha; exact ha))
theorem m_if_le {x : Int32} {v1 v2 : Int32} {off : Int} (hd : dJ k.2.1 pc (.ifCond .le off) off pc' tgt) (kt : SemG emb X k d jn ls (.int v1 :: st) S f → SemG emb X k d tgt ls st S f) (kf : SemG emb X k d jn ls (.int v2 :: st) S f → SemG emb X k d pc' ls st S f) (J : SemG emb X k d jn ls (.int (if x ≤ 0 then v1 else v2) :: st) S f) : SemG emb X k d pc ls (.int x :: st) S f := fun a ha => ev_if_le hd (fun h => kt (by rw [if_pos h] at J; exact J) a ha) (fun h => kf (by rw [if_neg h] at J; exact J) a ha)
theorem g_callV0B {k2 : Mth} {idx c ci : Nat} {fs : List (Option Nat)} {g : Option (Bool × St)} {ff : (Bool × St) → Option α} (hd : dI k.2.1 pc (.invokevirtual idx) 3 pc') (hw : Cond.methodLink k.1.cls idx k2.1 ∈ TG) (hk : VirK k2 0) (hc : lay[c]? = some (.inr (.inr (ci, fs)))) (hv : VcK ci k2)  (hst : (st.map fun v => v.category).sum ≤ 8) (h : SemG eB X k2 d 0 (ini k2 (.ref (xB X + c) :: [])) [] S g) (kk : ∀ q, SemG emb X k (d + 1) pc' ls (.int (bI q.1) :: st) q.2 (ff q)) : SemG emb X k (d + 1) pc ls (.ref (xB X + c) :: st) S (g.bind ff) := by
  intro a ha
  obtain ⟨q, hq, ha⟩ := Option.bind_eq_some_iff.mp ha
  obtain ⟨qc, h1, h2⟩ := hv
  exact ev_callV (As := []) hd hw hk (mkM_obj hc) h1 h2 (fun v hv => by cases hv) hst (h q hq) (kk q a ha)
theorem g_callS0B {k2 : Mth} {idx : Nat} {g : Option (Bool × St)} {ff : (Bool × St) → Option α} (hd : dI k.2.1 pc (.invokestatic idx) 3 pc') (hw : Cond.methodLink k.1.cls idx k2.1 ∈ TG) (hk : StaK k2 0)  (hst : (st.map fun v => v.category).sum ≤ 8) (h : SemG eB X k2 d 0 (ini k2 []) [] S g) (kk : ∀ q, SemG emb X k (d + 1) pc' ls (.int (bI q.1) :: st) q.2 (ff q)) : SemG emb X k (d + 1) pc ls (st) S (g.bind ff) := by
  intro a ha
  obtain ⟨q, hq, ha⟩ := Option.bind_eq_some_iff.mp ha
  exact ev_callS (As := []) hd hw hk (fun v hv => by cases hv) hst (h q hq) (kk q a ha)
theorem g_callN0B {k2 : Mth} {idx : Nat} {g : Option (Bool × St)} {ff : (Bool × St) → Option α} (hd : dI k.2.1 pc (.invokestatic idx) 3 pc') {host : String} (hw : (k.1.cls, idx, k2.1, host) ∈ nests) (hk : StaK k2 0)  (hst : (st.map fun v => v.category).sum ≤ 8) (h : SemG eB X k2 d 0 (ini k2 []) [] S g) (kk : ∀ q, SemG emb X k (d + 1) pc' ls (.int (bI q.1) :: st) q.2 (ff q)) : SemG emb X k (d + 1) pc ls (st) S (g.bind ff) := by
  intro a ha
  obtain ⟨q, hq, ha⟩ := Option.bind_eq_some_iff.mp ha
  exact ev_callSN (As := []) hd hw hk (fun v hv => by cases hv) hst (h q hq) (kk q a ha)
theorem g_callV1B {a1 : Value} {k2 : Mth} {idx c ci : Nat} {fs : List (Option Nat)} {g : Option (Bool × St)} {ff : (Bool × St) → Option α} (hd : dI k.2.1 pc (.invokevirtual idx) 3 pc') (hw : Cond.methodLink k.1.cls idx k2.1 ∈ TG) (hk : VirK k2 1) (hc : lay[c]? = some (.inr (.inr (ci, fs)))) (hv : VcK ci k2) (e1 : a1.category = 1) (hst : (st.map fun v => v.category).sum ≤ 8) (h : SemG eB X k2 d 0 (ini k2 (.ref (xB X + c) :: [a1])) [] S g) (kk : ∀ q, SemG emb X k (d + 1) pc' ls (.int (bI q.1) :: st) q.2 (ff q)) : SemG emb X k (d + 1) pc ls (a1 :: .ref (xB X + c) :: st) S (g.bind ff) := by
  intro a ha
  obtain ⟨q, hq, ha⟩ := Option.bind_eq_some_iff.mp ha
  obtain ⟨qc, h1, h2⟩ := hv
  exact ev_callV (As := [a1]) hd hw hk (mkM_obj hc) h1 h2 (cat_cons e1 (fun v hv => by cases hv)) hst (h q hq) (kk q a ha)
theorem g_callS1B {a1 : Value} {k2 : Mth} {idx : Nat} {g : Option (Bool × St)} {ff : (Bool × St) → Option α} (hd : dI k.2.1 pc (.invokestatic idx) 3 pc') (hw : Cond.methodLink k.1.cls idx k2.1 ∈ TG) (hk : StaK k2 1) (e1 : a1.category = 1) (hst : (st.map fun v => v.category).sum ≤ 8) (h : SemG eB X k2 d 0 (ini k2 [a1]) [] S g) (kk : ∀ q, SemG emb X k (d + 1) pc' ls (.int (bI q.1) :: st) q.2 (ff q)) : SemG emb X k (d + 1) pc ls (a1 :: st) S (g.bind ff) := by
  intro a ha
  obtain ⟨q, hq, ha⟩ := Option.bind_eq_some_iff.mp ha
  exact ev_callS (As := [a1]) hd hw hk (cat_cons e1 (fun v hv => by cases hv)) hst (h q hq) (kk q a ha)
theorem g_callN1B {a1 : Value} {k2 : Mth} {idx : Nat} {g : Option (Bool × St)} {ff : (Bool × St) → Option α} (hd : dI k.2.1 pc (.invokestatic idx) 3 pc') {host : String} (hw : (k.1.cls, idx, k2.1, host) ∈ nests) (hk : StaK k2 1) (e1 : a1.category = 1) (hst : (st.map fun v => v.category).sum ≤ 8) (h : SemG eB X k2 d 0 (ini k2 [a1]) [] S g) (kk : ∀ q, SemG emb X k (d + 1) pc' ls (.int (bI q.1) :: st) q.2 (ff q)) : SemG emb X k (d + 1) pc ls (a1 :: st) S (g.bind ff) := by
  intro a ha
  obtain ⟨q, hq, ha⟩ := Option.bind_eq_some_iff.mp ha
  exact ev_callSN (As := [a1]) hd hw hk (cat_cons e1 (fun v hv => by cases hv)) hst (h q hq) (kk q a ha)
theorem g_callV2B {a1 a2 : Value} {k2 : Mth} {idx c ci : Nat} {fs : List (Option Nat)} {g : Option (Bool × St)} {ff : (Bool × St) → Option α} (hd : dI k.2.1 pc (.invokevirtual idx) 3 pc') (hw : Cond.methodLink k.1.cls idx k2.1 ∈ TG) (hk : VirK k2 2) (hc : lay[c]? = some (.inr (.inr (ci, fs)))) (hv : VcK ci k2) (e1 : a1.category = 1) (e2 : a2.category = 1) (hst : (st.map fun v => v.category).sum ≤ 8) (h : SemG eB X k2 d 0 (ini k2 (.ref (xB X + c) :: [a1, a2])) [] S g) (kk : ∀ q, SemG emb X k (d + 1) pc' ls (.int (bI q.1) :: st) q.2 (ff q)) : SemG emb X k (d + 1) pc ls (a2 :: a1 :: .ref (xB X + c) :: st) S (g.bind ff) := by
  intro a ha
  obtain ⟨q, hq, ha⟩ := Option.bind_eq_some_iff.mp ha
  obtain ⟨qc, h1, h2⟩ := hv
  exact ev_callV (As := [a1, a2]) hd hw hk (mkM_obj hc) h1 h2 (cat_cons e1 (cat_cons e2 (fun v hv => by cases hv))) hst (h q hq) (kk q a ha)
theorem g_callS2B {a1 a2 : Value} {k2 : Mth} {idx : Nat} {g : Option (Bool × St)} {ff : (Bool × St) → Option α} (hd : dI k.2.1 pc (.invokestatic idx) 3 pc') (hw : Cond.methodLink k.1.cls idx k2.1 ∈ TG) (hk : StaK k2 2) (e1 : a1.category = 1) (e2 : a2.category = 1) (hst : (st.map fun v => v.category).sum ≤ 8) (h : SemG eB X k2 d 0 (ini k2 [a1, a2]) [] S g) (kk : ∀ q, SemG emb X k (d + 1) pc' ls (.int (bI q.1) :: st) q.2 (ff q)) : SemG emb X k (d + 1) pc ls (a2 :: a1 :: st) S (g.bind ff) := by
  intro a ha
  obtain ⟨q, hq, ha⟩ := Option.bind_eq_some_iff.mp ha
  exact ev_callS (As := [a1, a2]) hd hw hk (cat_cons e1 (cat_cons e2 (fun v hv => by cases hv))) hst (h q hq) (kk q a ha)
theorem g_callN2B {a1 a2 : Value} {k2 : Mth} {idx : Nat} {g : Option (Bool × St)} {ff : (Bool × St) → Option α} (hd : dI k.2.1 pc (.invokestatic idx) 3 pc') {host : String} (hw : (k.1.cls, idx, k2.1, host) ∈ nests) (hk : StaK k2 2) (e1 : a1.category = 1) (e2 : a2.category = 1) (hst : (st.map fun v => v.category).sum ≤ 8) (h : SemG eB X k2 d 0 (ini k2 [a1, a2]) [] S g) (kk : ∀ q, SemG emb X k (d + 1) pc' ls (.int (bI q.1) :: st) q.2 (ff q)) : SemG emb X k (d + 1) pc ls (a2 :: a1 :: st) S (g.bind ff) := by
  intro a ha
  obtain ⟨q, hq, ha⟩ := Option.bind_eq_some_iff.mp ha
  exact ev_callSN (As := [a1, a2]) hd hw hk (cat_cons e1 (cat_cons e2 (fun v hv => by cases hv))) hst (h q hq) (kk q a ha)
theorem g_callV3B {a1 a2 a3 : Value} {k2 : Mth} {idx c ci : Nat} {fs : List (Option Nat)} {g : Option (Bool × St)} {ff : (Bool × St) → Option α} (hd : dI k.2.1 pc (.invokevirtual idx) 3 pc') (hw : Cond.methodLink k.1.cls idx k2.1 ∈ TG) (hk : VirK k2 3) (hc : lay[c]? = some (.inr (.inr (ci, fs)))) (hv : VcK ci k2) (e1 : a1.category = 1) (e2 : a2.category = 1) (e3 : a3.category = 1) (hst : (st.map fun v => v.category).sum ≤ 8) (h : SemG eB X k2 d 0 (ini k2 (.ref (xB X + c) :: [a1, a2, a3])) [] S g) (kk : ∀ q, SemG emb X k (d + 1) pc' ls (.int (bI q.1) :: st) q.2 (ff q)) : SemG emb X k (d + 1) pc ls (a3 :: a2 :: a1 :: .ref (xB X + c) :: st) S (g.bind ff) := by
  intro a ha
  obtain ⟨q, hq, ha⟩ := Option.bind_eq_some_iff.mp ha
  obtain ⟨qc, h1, h2⟩ := hv
  exact ev_callV (As := [a1, a2, a3]) hd hw hk (mkM_obj hc) h1 h2 (cat_cons e1 (cat_cons e2 (cat_cons e3 (fun v hv => by cases hv)))) hst (h q hq) (kk q a ha)
theorem g_callS3B {a1 a2 a3 : Value} {k2 : Mth} {idx : Nat} {g : Option (Bool × St)} {ff : (Bool × St) → Option α} (hd : dI k.2.1 pc (.invokestatic idx) 3 pc') (hw : Cond.methodLink k.1.cls idx k2.1 ∈ TG) (hk : StaK k2 3) (e1 : a1.category = 1) (e2 : a2.category = 1) (e3 : a3.category = 1) (hst : (st.map fun v => v.category).sum ≤ 8) (h : SemG eB X k2 d 0 (ini k2 [a1, a2, a3]) [] S g) (kk : ∀ q, SemG emb X k (d + 1) pc' ls (.int (bI q.1) :: st) q.2 (ff q)) : SemG emb X k (d + 1) pc ls (a3 :: a2 :: a1 :: st) S (g.bind ff) := by
  intro a ha
  obtain ⟨q, hq, ha⟩ := Option.bind_eq_some_iff.mp ha
  exact ev_callS (As := [a1, a2, a3]) hd hw hk (cat_cons e1 (cat_cons e2 (cat_cons e3 (fun v hv => by cases hv)))) hst (h q hq) (kk q a ha)
theorem g_callN3B {a1 a2 a3 : Value} {k2 : Mth} {idx : Nat} {g : Option (Bool × St)} {ff : (Bool × St) → Option α} (hd : dI k.2.1 pc (.invokestatic idx) 3 pc') {host : String} (hw : (k.1.cls, idx, k2.1, host) ∈ nests) (hk : StaK k2 3) (e1 : a1.category = 1) (e2 : a2.category = 1) (e3 : a3.category = 1) (hst : (st.map fun v => v.category).sum ≤ 8) (h : SemG eB X k2 d 0 (ini k2 [a1, a2, a3]) [] S g) (kk : ∀ q, SemG emb X k (d + 1) pc' ls (.int (bI q.1) :: st) q.2 (ff q)) : SemG emb X k (d + 1) pc ls (a3 :: a2 :: a1 :: st) S (g.bind ff) := by
  intro a ha
  obtain ⟨q, hq, ha⟩ := Option.bind_eq_some_iff.mp ha
  exact ev_callSN (As := [a1, a2, a3]) hd hw hk (cat_cons e1 (cat_cons e2 (cat_cons e3 (fun v hv => by cases hv)))) hst (h q hq) (kk q a ha)
theorem g_callV4B {a1 a2 a3 a4 : Value} {k2 : Mth} {idx c ci : Nat} {fs : List (Option Nat)} {g : Option (Bool × St)} {ff : (Bool × St) → Option α} (hd : dI k.2.1 pc (.invokevirtual idx) 3 pc') (hw : Cond.methodLink k.1.cls idx k2.1 ∈ TG) (hk : VirK k2 4) (hc : lay[c]? = some (.inr (.inr (ci, fs)))) (hv : VcK ci k2) (e1 : a1.category = 1) (e2 : a2.category = 1) (e3 : a3.category = 1) (e4 : a4.category = 1) (hst : (st.map fun v => v.category).sum ≤ 8) (h : SemG eB X k2 d 0 (ini k2 (.ref (xB X + c) :: [a1, a2, a3, a4])) [] S g) (kk : ∀ q, SemG emb X k (d + 1) pc' ls (.int (bI q.1) :: st) q.2 (ff q)) : SemG emb X k (d + 1) pc ls (a4 :: a3 :: a2 :: a1 :: .ref (xB X + c) :: st) S (g.bind ff) := by
  intro a ha
  obtain ⟨q, hq, ha⟩ := Option.bind_eq_some_iff.mp ha
  obtain ⟨qc, h1, h2⟩ := hv
  exact ev_callV (As := [a1, a2, a3, a4]) hd hw hk (mkM_obj hc) h1 h2 (cat_cons e1 (cat_cons e2 (cat_cons e3 (cat_cons e4 (fun v hv => by cases hv))))) hst (h q hq) (kk q a ha)
theorem g_callS4B {a1 a2 a3 a4 : Value} {k2 : Mth} {idx : Nat} {g : Option (Bool × St)} {ff : (Bool × St) → Option α} (hd : dI k.2.1 pc (.invokestatic idx) 3 pc') (hw : Cond.methodLink k.1.cls idx k2.1 ∈ TG) (hk : StaK k2 4) (e1 : a1.category = 1) (e2 : a2.category = 1) (e3 : a3.category = 1) (e4 : a4.category = 1) (hst : (st.map fun v => v.category).sum ≤ 8) (h : SemG eB X k2 d 0 (ini k2 [a1, a2, a3, a4]) [] S g) (kk : ∀ q, SemG emb X k (d + 1) pc' ls (.int (bI q.1) :: st) q.2 (ff q)) : SemG emb X k (d + 1) pc ls (a4 :: a3 :: a2 :: a1 :: st) S (g.bind ff) := by
  intro a ha
  obtain ⟨q, hq, ha⟩ := Option.bind_eq_some_iff.mp ha
  exact ev_callS (As := [a1, a2, a3, a4]) hd hw hk (cat_cons e1 (cat_cons e2 (cat_cons e3 (cat_cons e4 (fun v hv => by cases hv))))) hst (h q hq) (kk q a ha)
theorem g_callN4B {a1 a2 a3 a4 : Value} {k2 : Mth} {idx : Nat} {g : Option (Bool × St)} {ff : (Bool × St) → Option α} (hd : dI k.2.1 pc (.invokestatic idx) 3 pc') {host : String} (hw : (k.1.cls, idx, k2.1, host) ∈ nests) (hk : StaK k2 4) (e1 : a1.category = 1) (e2 : a2.category = 1) (e3 : a3.category = 1) (e4 : a4.category = 1) (hst : (st.map fun v => v.category).sum ≤ 8) (h : SemG eB X k2 d 0 (ini k2 [a1, a2, a3, a4]) [] S g) (kk : ∀ q, SemG emb X k (d + 1) pc' ls (.int (bI q.1) :: st) q.2 (ff q)) : SemG emb X k (d + 1) pc ls (a4 :: a3 :: a2 :: a1 :: st) S (g.bind ff) := by
  intro a ha
  obtain ⟨q, hq, ha⟩ := Option.bind_eq_some_iff.mp ha
  exact ev_callSN (As := [a1, a2, a3, a4]) hd hw hk (cat_cons e1 (cat_cons e2 (cat_cons e3 (cat_cons e4 (fun v hv => by cases hv))))) hst (h q hq) (kk q a ha)
theorem g_callV5B {a1 a2 a3 a4 a5 : Value} {k2 : Mth} {idx c ci : Nat} {fs : List (Option Nat)} {g : Option (Bool × St)} {ff : (Bool × St) → Option α} (hd : dI k.2.1 pc (.invokevirtual idx) 3 pc') (hw : Cond.methodLink k.1.cls idx k2.1 ∈ TG) (hk : VirK k2 5) (hc : lay[c]? = some (.inr (.inr (ci, fs)))) (hv : VcK ci k2) (e1 : a1.category = 1) (e2 : a2.category = 1) (e3 : a3.category = 1) (e4 : a4.category = 1) (e5 : a5.category = 1) (hst : (st.map fun v => v.category).sum ≤ 8) (h : SemG eB X k2 d 0 (ini k2 (.ref (xB X + c) :: [a1, a2, a3, a4, a5])) [] S g) (kk : ∀ q, SemG emb X k (d + 1) pc' ls (.int (bI q.1) :: st) q.2 (ff q)) : SemG emb X k (d + 1) pc ls (a5 :: a4 :: a3 :: a2 :: a1 :: .ref (xB X + c) :: st) S (g.bind ff) := by
  intro a ha
  obtain ⟨q, hq, ha⟩ := Option.bind_eq_some_iff.mp ha
  obtain ⟨qc, h1, h2⟩ := hv
  exact ev_callV (As := [a1, a2, a3, a4, a5]) hd hw hk (mkM_obj hc) h1 h2 (cat_cons e1 (cat_cons e2 (cat_cons e3 (cat_cons e4 (cat_cons e5 (fun v hv => by cases hv)))))) hst (h q hq) (kk q a ha)
theorem g_callS5B {a1 a2 a3 a4 a5 : Value} {k2 : Mth} {idx : Nat} {g : Option (Bool × St)} {ff : (Bool × St) → Option α} (hd : dI k.2.1 pc (.invokestatic idx) 3 pc') (hw : Cond.methodLink k.1.cls idx k2.1 ∈ TG) (hk : StaK k2 5) (e1 : a1.category = 1) (e2 : a2.category = 1) (e3 : a3.category = 1) (e4 : a4.category = 1) (e5 : a5.category = 1) (hst : (st.map fun v => v.category).sum ≤ 8) (h : SemG eB X k2 d 0 (ini k2 [a1, a2, a3, a4, a5]) [] S g) (kk : ∀ q, SemG emb X k (d + 1) pc' ls (.int (bI q.1) :: st) q.2 (ff q)) : SemG emb X k (d + 1) pc ls (a5 :: a4 :: a3 :: a2 :: a1 :: st) S (g.bind ff) := by
  intro a ha
  obtain ⟨q, hq, ha⟩ := Option.bind_eq_some_iff.mp ha
  exact ev_callS (As := [a1, a2, a3, a4, a5]) hd hw hk (cat_cons e1 (cat_cons e2 (cat_cons e3 (cat_cons e4 (cat_cons e5 (fun v hv => by cases hv)))))) hst (h q hq) (kk q a ha)
theorem g_callN5B {a1 a2 a3 a4 a5 : Value} {k2 : Mth} {idx : Nat} {g : Option (Bool × St)} {ff : (Bool × St) → Option α} (hd : dI k.2.1 pc (.invokestatic idx) 3 pc') {host : String} (hw : (k.1.cls, idx, k2.1, host) ∈ nests) (hk : StaK k2 5) (e1 : a1.category = 1) (e2 : a2.category = 1) (e3 : a3.category = 1) (e4 : a4.category = 1) (e5 : a5.category = 1) (hst : (st.map fun v => v.category).sum ≤ 8) (h : SemG eB X k2 d 0 (ini k2 [a1, a2, a3, a4, a5]) [] S g) (kk : ∀ q, SemG emb X k (d + 1) pc' ls (.int (bI q.1) :: st) q.2 (ff q)) : SemG emb X k (d + 1) pc ls (a5 :: a4 :: a3 :: a2 :: a1 :: st) S (g.bind ff) := by
  intro a ha
  obtain ⟨q, hq, ha⟩ := Option.bind_eq_some_iff.mp ha
  exact ev_callSN (As := [a1, a2, a3, a4, a5]) hd hw hk (cat_cons e1 (cat_cons e2 (cat_cons e3 (cat_cons e4 (cat_cons e5 (fun v hv => by cases hv)))))) hst (h q hq) (kk q a ha)
end G2
theorem sh_at : ∀ j : Nat, j < 4 → ([37, 39, 41, 43] : List Nat)[j]? = some (37 + 2 * j) ∧ lay[37 + 2 * j]? = some (.inr (.inr (3, [some (38 + 2 * j), none, none]))) ∧ lay[38 + 2 * j]? = some (.inl 40)
  | 0, _ => ⟨rfl, rfl, rfl⟩
  | 1, _ => ⟨rfl, rfl, rfl⟩
  | 2, _ => ⟨rfl, rfl, rfl⟩
  | 3, _ => ⟨rfl, rfl, rfl⟩
  | n + 4, h => absurd h (by omega)
theorem be_at : ∀ j : Nat, j < 4 → ([26, 28, 30, 32] : List Nat)[j]? = some (26 + 2 * j) ∧ lay[26 + 2 * j]? = some (.inr (.inr (0, [some 3, some (27 + 2 * j)]))) ∧ lay[27 + 2 * j]? = some (.inl 10)
  | 0, _ => ⟨rfl, rfl, rfl⟩
  | 1, _ => ⟨rfl, rfl, rfl⟩
  | 2, _ => ⟨rfl, rfl, rfl⟩
  | 3, _ => ⟨rfl, rfl, rfl⟩
  | n + 4, h => absurd h (by omega)
theorem inb_lt {i : Int32} {n : Nat} (h : inb i n = true) : i.toNatClampNeg < n := Nat.not_le.mp fun q => inb_in h (Or.inr q)
end
section
def f_L_hour (c g h : Nat) (S : St) : Option (Int32 × St) := some (((14 + ((S h 7) / 60)) - (14 + ((S h 7) / 60)) / 24 * 24), S)
set_option maxRecDepth 4000 in
theorem w_L_hour {X : xC} {d : Nat} {c g h : Nat} (hc : lay[c]? = some (.inr (.inr (0, [some g, some h])))) (hg : lay[g]? = some (.inl 40)) (hh : lay[h]? = some (.inl 10)) (S : St) : SemG eI X k_L_hour (d) 0 [some (.ref (xB X + c))] [] S (f_L_hour c g h  S) := by
  unfold f_L_hour
  refine g_bipush d_L_hour_0 ?_
  refine g_aload_n d_L_hour_2 rfl ?_
  refine g_getR d_L_hour_3 fl_L_9 hc rfl ?_
  refine g_bipush d_L_hour_6 ?_
  refine g_ild d_L_hour_8 hh il_7_10.1 il_7_10.2 ?_
  refine g_bipush d_L_hour_9 ?_
  refine g_idiv d_L_hour_11 (by decide) ?_
  refine g_iadd d_L_hour_12 ?_
  refine g_bipush d_L_hour_13 ?_
  refine g_irem d_L_hour_15 (by decide) ?_
  exact g_ireturn d_L_hour_16 rfl rfl rfl
def f_L_heat (c g h : Nat) (S : St) : Option (Int32 × St) := ((f_L_hour c g h S).bind fun q1 => (if q1.1 < 10 then let x5 : Int32 := (if 20 ≤ q1.1 then 1 else (if 5 < q1.1 then 2 else 1)); some (x5, q1.2) else (if 16 < q1.1 then let x9 : Int32 := (if 20 ≤ q1.1 then 1 else (if 5 < q1.1 then 2 else 1)); some (x9, q1.2) else some (3, q1.2))))
set_option maxRecDepth 4000 in
theorem w_L_heat {X : xC} {d : Nat} {c g h : Nat} (hc : lay[c]? = some (.inr (.inr (0, [some g, some h])))) (hg : lay[g]? = some (.inl 40)) (hh : lay[h]? = some (.inl 10)) (S : St) : SemG eI X k_L_heat (d + 1) 0 [some (.ref (xB X + c)), none] [] S (f_L_heat c g h  S) := by
  unfold f_L_heat
  refine g_aload_n d_L_heat_0 rfl ?_
  refine g_callV0I d_L_heat_1 ml_L_28 vk_L_hour hc ⟨_, rfl, rfl⟩ (Nat.le_of_ble_eq_true rfl) (w_L_hour (X := X) (d := d) hc hg hh _) (fun q1 => ?_)
  refine g_istore_n d_L_heat_4 (by decide) ?_
  refine g_iload_n d_L_heat_5 rfl ?_
  refine g_bipush d_L_heat_6 ?_
  refine s_icmp_lt d_L_heat_8 (fun u2 => ?_) (fun u2 => ?_)
  · refine g_iload_n d_L_heat_19 rfl ?_
    refine g_bipush d_L_heat_20 ?_
    refine m_icmp_ge d_L_heat_22 (fun hJ4 => g_iconst d_L_heat_30 (g_goto d_L_heat_31 hJ4)) (fun hJ4 => g_iload_n d_L_heat_25 rfl (g_iconst d_L_heat_26 (m_icmp_gt d_L_heat_27 (fun hJ3 => g_iconst d_L_heat_34 hJ3) (fun hJ3 => g_iconst d_L_heat_30 (g_goto d_L_heat_31 hJ3)) hJ4))) ?_
    exact g_ireturn d_L_heat_35 rfl rfl rfl
  · refine g_iload_n d_L_heat_11 rfl ?_
    refine g_bipush d_L_heat_12 ?_
    refine s_icmp_gt d_L_heat_14 (fun u6 => ?_) (fun u6 => ?_)
    · refine g_iload_n d_L_heat_19 rfl ?_
      refine g_bipush d_L_heat_20 ?_
      refine m_icmp_ge d_L_heat_22 (fun hJ8 => g_iconst d_L_heat_30 (g_goto d_L_heat_31 hJ8)) (fun hJ8 => g_iload_n d_L_heat_25 rfl (g_iconst d_L_heat_26 (m_icmp_gt d_L_heat_27 (fun hJ7 => g_iconst d_L_heat_34 hJ7) (fun hJ7 => g_iconst d_L_heat_30 (g_goto d_L_heat_31 hJ7)) hJ8))) ?_
      exact g_ireturn d_L_heat_35 rfl rfl rfl
    · refine g_iconst d_L_heat_17 ?_
      exact g_ireturn d_L_heat_18 rfl rfl rfl
def f_L_gripOf (c g h : Nat) (p1 p2 : Int32) (S : St) : Option (Int32 × St) := ((f_L_hour c g h S).bind fun q1 => let x4 : Int32 := (if q1.1 < 4 then 0 else (if 7 < q1.1 then 0 else 20)); some (((p1 + (3 * p2)) + x4), q1.2))
set_option maxRecDepth 4000 in
theorem w_L_gripOf {X : xC} {d : Nat} {c g h : Nat} (hc : lay[c]? = some (.inr (.inr (0, [some g, some h])))) (hg : lay[g]? = some (.inl 40)) (hh : lay[h]? = some (.inl 10)) (p1 p2 : Int32) (S : St) : SemG eI X k_L_gripOf (d + 1) 0 [some (.ref (xB X + c)), some (.int p1), some (.int p2), none, none] [] S (f_L_gripOf c g h p1 p2 S) := by
  unfold f_L_gripOf
  refine g_aload_n d_L_gripOf_0 rfl ?_
  refine g_callV0I d_L_gripOf_1 ml_L_28 vk_L_hour hc ⟨_, rfl, rfl⟩ (Nat.le_of_ble_eq_true rfl) (w_L_hour (X := X) (d := d) hc hg hh _) (fun q1 => ?_)
  refine g_istore_n d_L_gripOf_4 (by decide) ?_
  refine g_iload_n d_L_gripOf_5 rfl ?_
  refine g_iconst d_L_gripOf_6 ?_
  refine m_icmp_lt d_L_gripOf_7 (fun hJ3 => g_iconst d_L_gripOf_21 hJ3) (fun hJ3 => g_iload_n d_L_gripOf_10 rfl (g_bipush d_L_gripOf_11 (m_icmp_gt d_L_gripOf_13 (fun hJ2 => g_iconst d_L_gripOf_21 hJ2) (fun hJ2 => g_bipush d_L_gripOf_16 (g_goto d_L_gripOf_18 hJ2)) hJ3))) ?_
  refine g_istore d_L_gripOf_22 (by decide) ?_
  refine g_iload_n d_L_gripOf_24 rfl ?_
  refine g_iconst d_L_gripOf_25 ?_
  refine g_iload_n d_L_gripOf_26 rfl ?_
  refine g_imul d_L_gripOf_27 ?_
  refine g_iadd d_L_gripOf_28 ?_
  refine g_iload d_L_gripOf_29 rfl ?_
  refine g_iadd d_L_gripOf_31 ?_
  exact g_ireturn d_L_gripOf_32 rfl rfl rfl
def f_S_weightOf (p1 p2 : Int32) (S : St) : Option (Int32 × St) := some (((20 + (p1 / 2)) + p2), S)
set_option maxRecDepth 4000 in
theorem w_S_weightOf {X : xC} {d : Nat}  (p1 p2 : Int32) (S : St) : SemG eI X k_S_weightOf (d) 0 [some (.int p1), some (.int p2)] [] S (f_S_weightOf  p1 p2 S) := by
  unfold f_S_weightOf
  refine g_bipush d_S_weightOf_0 ?_
  refine g_iload_n d_S_weightOf_2 rfl ?_
  refine g_iconst d_S_weightOf_3 ?_
  refine g_idiv d_S_weightOf_4 (by decide) ?_
  refine g_iadd d_S_weightOf_5 ?_
  refine g_iload_n d_S_weightOf_6 rfl ?_
  refine g_iadd d_S_weightOf_7 ?_
  exact g_ireturn d_S_weightOf_8 rfl rfl rfl
def f_L_weight (c g h : Nat) (S : St) : Option (Int32 × St) := ((f_S_weightOf (S h 2) (S h 1) S).bind fun q1 => some (q1.1, q1.2))
set_option maxRecDepth 4000 in
theorem w_L_weight {X : xC} {d : Nat} {c g h : Nat} (hc : lay[c]? = some (.inr (.inr (0, [some g, some h])))) (hg : lay[g]? = some (.inl 40)) (hh : lay[h]? = some (.inl 10)) (S : St) : SemG eI X k_L_weight (d + 1) 0 [some (.ref (xB X + c))] [] S (f_L_weight c g h  S) := by
  unfold f_L_weight
  refine g_aload_n d_L_weight_0 rfl ?_
  refine g_getR d_L_weight_1 fl_L_9 hc rfl ?_
  refine g_iconst d_L_weight_4 ?_
  refine g_ild d_L_weight_5 hh il_2_10.1 il_2_10.2 ?_
  refine g_aload_n d_L_weight_6 rfl ?_
  refine g_getR d_L_weight_7 fl_L_9 hc rfl ?_
  refine g_iconst d_L_weight_10 ?_
  refine g_ild d_L_weight_11 hh il_1_10.1 il_1_10.2 ?_
  refine g_callN2I d_L_weight_12 nl_L_32 sk_S_weightOf rfl rfl (Nat.le_of_ble_eq_true rfl) (w_S_weightOf (X := X) (d := d) _ _ _) (fun q1 => ?_)
  exact g_ireturn d_L_weight_15 rfl rfl rfl
def f_S_isYard (p1 : Int32) (S : St) : Option (Bool × St) := let x3 : Int32 := (if p1 < 0 then 0 else (if 40 ≤ p1 then 0 else 1)); some ((if p1 < 0 then false else (if 40 ≤ p1 then false else true)), S)
set_option maxRecDepth 4000 in
theorem w_S_isYard {X : xC} {d : Nat}  (p1 : Int32) (S : St) : SemG eB X k_S_isYard (d) 0 [some (.int p1)] [] S (f_S_isYard  p1 S) := by
  unfold f_S_isYard
  refine g_iload_n d_S_isYard_0 rfl ?_
  refine m_if_lt d_S_isYard_1 (fun hJ2 => g_iconst d_S_isYard_14 hJ2) (fun hJ2 => g_iload_n d_S_isYard_4 rfl (g_bipush d_S_isYard_5 (m_icmp_ge d_S_isYard_7 (fun hJ1 => g_iconst d_S_isYard_14 hJ1) (fun hJ1 => g_iconst d_S_isYard_10 (g_goto d_S_isYard_11 hJ1)) hJ2))) ?_
  refine g_zreturn d_S_isYard_15 rfl ?_ rfl
  (repeat' split) <;> rfl
def f_L_isOut (c g h : Nat) (S : St) : Option (Bool × St) := ((f_S_isYard (S h 0) S).bind fun q1 => let x3 : Int32 := (if (bI q1.1) = 0 then 1 else 0); some ((if (bI q1.1) = 0 then true else false), q1.2))
set_option maxRecDepth 4000 in
theorem w_L_isOut {X : xC} {d : Nat} {c g h : Nat} (hc : lay[c]? = some (.inr (.inr (0, [some g, some h])))) (hg : lay[g]? = some (.inl 40)) (hh : lay[h]? = some (.inl 10)) (S : St) : SemG eB X k_L_isOut (d + 1) 0 [some (.ref (xB X + c))] [] S (f_L_isOut c g h  S) := by
  unfold f_L_isOut
  refine g_aload_n d_L_isOut_0 rfl ?_
  refine g_getR d_L_isOut_1 fl_L_9 hc rfl ?_
  refine g_iconst d_L_isOut_4 ?_
  refine g_ild d_L_isOut_5 hh il_0_10.1 il_0_10.2 ?_
  refine g_callN1B d_L_isOut_6 nl_L_24 sk_S_isYard rfl (Nat.le_of_ble_eq_true rfl) (w_S_isYard (X := X) (d := d) _ _) (fun q1 => ?_)
  refine m_if_ne d_L_isOut_9 (fun hJ2 => g_iconst d_L_isOut_16 hJ2) (fun hJ2 => g_iconst d_L_isOut_12 (g_goto d_L_isOut_13 hJ2)) ?_
  refine g_zreturn d_L_isOut_17 rfl ?_ rfl
  (repeat' split) <;> rfl
def f_L_minutesOf (c g h : Nat) (p1 : Int32) (S : St) : Option (Int32 × St) := (if p1 = 1 then some (30, S) else (if p1 = 2 then some (45, S) else (if p1 = 3 then some (40, S) else (if p1 = 4 then some (10, S) else (if p1 = 5 then some (105, S) else (if p1 = 6 then some (1, S) else (if p1 = 7 then some ((1440 - ((600 + (S h 7)) - (600 + (S h 7)) / 1440 * 1440)), S) else some (1, S))))))))
set_option maxRecDepth 4000 in
theorem w_L_minutesOf {X : xC} {d : Nat} {c g h : Nat} (hc : lay[c]? = some (.inr (.inr (0, [some g, some h])))) (hg : lay[g]? = some (.inl 40)) (hh : lay[h]? = some (.inl 10)) (p1 : Int32) (S : St) : SemG eI X k_L_minutesOf (d) 0 [some (.ref (xB X + c)), some (.int p1)] [] S (f_L_minutesOf c g h p1 S) := by
  unfold f_L_minutesOf
  refine g_iload_n d_L_minutesOf_0 rfl ?_
  refine g_ite (fun u1 => ?_) (fun u1 => ?_)
  · refine g_tcase (off := 43) (tgt := 44) d_L_minutesOf_1 u1 (by decide) ?_
    refine g_bipush d_L_minutesOf_44 ?_
    exact g_ireturn d_L_minutesOf_46 rfl rfl rfl
  refine g_ite (fun u2 => ?_) (fun u2 => ?_)
  · refine g_tcase (off := 46) (tgt := 47) d_L_minutesOf_1 u2 (by decide) ?_
    refine g_bipush d_L_minutesOf_47 ?_
    exact g_ireturn d_L_minutesOf_49 rfl rfl rfl
  refine g_ite (fun u3 => ?_) (fun u3 => ?_)
  · refine g_tcase (off := 52) (tgt := 53) d_L_minutesOf_1 u3 (by decide) ?_
    refine g_bipush d_L_minutesOf_53 ?_
    exact g_ireturn d_L_minutesOf_55 rfl rfl rfl
  refine g_ite (fun u4 => ?_) (fun u4 => ?_)
  · refine g_tcase (off := 55) (tgt := 56) d_L_minutesOf_1 u4 (by decide) ?_
    refine g_bipush d_L_minutesOf_56 ?_
    exact g_ireturn d_L_minutesOf_58 rfl rfl rfl
  refine g_ite (fun u5 => ?_) (fun u5 => ?_)
  · refine g_tcase (off := 49) (tgt := 50) d_L_minutesOf_1 u5 (by decide) ?_
    refine g_bipush d_L_minutesOf_50 ?_
    exact g_ireturn d_L_minutesOf_52 rfl rfl rfl
  refine g_ite (fun u6 => ?_) (fun u6 => ?_)
  · refine g_tcase (off := 78) (tgt := 79) d_L_minutesOf_1 u6 (by decide) ?_
    refine g_iconst d_L_minutesOf_79 ?_
    exact g_ireturn d_L_minutesOf_80 rfl rfl rfl
  refine g_ite (fun u7 => ?_) (fun u7 => ?_)
  · refine g_tcase (off := 58) (tgt := 59) d_L_minutesOf_1 u7 (by decide) ?_
    refine g_sipush d_L_minutesOf_59 ?_
    refine g_sipush d_L_minutesOf_62 ?_
    refine g_aload_n d_L_minutesOf_65 rfl ?_
    refine g_getR d_L_minutesOf_66 fl_L_9 hc rfl ?_
    refine g_bipush d_L_minutesOf_69 ?_
    refine g_ild d_L_minutesOf_71 hh il_7_10.1 il_7_10.2 ?_
    refine g_iadd d_L_minutesOf_72 ?_
    refine g_sipush d_L_minutesOf_73 ?_
    refine g_irem d_L_minutesOf_76 (by decide) ?_
    refine g_isub d_L_minutesOf_77 ?_
    exact g_ireturn d_L_minutesOf_78 rfl rfl rfl
  have eu1 := ne32 (n := 1) u1 (by decide)
  have eu2 := ne32 (n := 2) u2 (by decide)
  have eu3 := ne32 (n := 3) u3 (by decide)
  have eu4 := ne32 (n := 4) u4 (by decide)
  have eu5 := ne32 (n := 5) u5 (by decide)
  have eu6 := ne32 (n := 6) u6 (by decide)
  have eu7 := ne32 (n := 7) u7 (by decide)
  refine g_tdef (tgt := 79) d_L_minutesOf_1 (by omega) (by decide) ?_
  refine g_iconst d_L_minutesOf_79 ?_
  exact g_ireturn d_L_minutesOf_80 rfl rfl rfl
def f_S_workOf (p1 : Int32) (S : St) : Option (Int32 × St) := (if p1 = 1 then some (3, S) else (if p1 = 2 then some (3, S) else (if p1 = 3 then some (2, S) else (if p1 = 4 then some (0, S) else (if p1 = 5 then some (4, S) else some (0, S))))))
set_option maxRecDepth 4000 in
theorem w_S_workOf {X : xC} {d : Nat}  (p1 : Int32) (S : St) : SemG eI X k_S_workOf (d) 0 [some (.int p1)] [] S (f_S_workOf  p1 S) := by
  unfold f_S_workOf
  refine g_iload_n d_S_workOf_0 rfl ?_
  refine g_ite (fun u1 => ?_) (fun u1 => ?_)
  · refine g_tcase (off := 35) (tgt := 36) d_S_workOf_1 u1 (by decide) ?_
    refine g_iconst d_S_workOf_36 ?_
    exact g_ireturn d_S_workOf_37 rfl rfl rfl
  refine g_ite (fun u2 => ?_) (fun u2 => ?_)
  · refine g_tcase (off := 37) (tgt := 38) d_S_workOf_1 u2 (by decide) ?_
    refine g_iconst d_S_workOf_38 ?_
    exact g_ireturn d_S_workOf_39 rfl rfl rfl
  refine g_ite (fun u3 => ?_) (fun u3 => ?_)
  · refine g_tcase (off := 41) (tgt := 42) d_S_workOf_1 u3 (by decide) ?_
    refine g_iconst d_S_workOf_42 ?_
    exact g_ireturn d_S_workOf_43 rfl rfl rfl
  refine g_ite (fun u4 => ?_) (fun u4 => ?_)
  · refine g_tcase (off := 43) (tgt := 44) d_S_workOf_1 u4 (by decide) ?_
    refine g_iconst d_S_workOf_44 ?_
    exact g_ireturn d_S_workOf_45 rfl rfl rfl
  refine g_ite (fun u5 => ?_) (fun u5 => ?_)
  · refine g_tcase (off := 39) (tgt := 40) d_S_workOf_1 u5 (by decide) ?_
    refine g_iconst d_S_workOf_40 ?_
    exact g_ireturn d_S_workOf_41 rfl rfl rfl
  have eu1 := ne32 (n := 1) u1 (by decide)
  have eu2 := ne32 (n := 2) u2 (by decide)
  have eu3 := ne32 (n := 3) u3 (by decide)
  have eu4 := ne32 (n := 4) u4 (by decide)
  have eu5 := ne32 (n := 5) u5 (by decide)
  refine g_tdef (tgt := 44) d_S_workOf_1 (by omega) (by decide) ?_
  refine g_iconst d_S_workOf_44 ?_
  exact g_ireturn d_S_workOf_45 rfl rfl rfl
def f_L_drinkOf (c g h : Nat) (p1 : Int32) (S : St) : Option (Int32 × St) := ((f_S_workOf p1 S).bind fun q1 => ((f_L_heat c g h q1.2).bind fun q2 => ((f_L_minutesOf c g h p1 q2.2).bind fun q3 => some ((((((S h 5) * (q1.1 + 1)) * q2.1) * q3.1) / 60), q3.2))))
set_option maxRecDepth 4000 in
theorem w_L_drinkOf {X : xC} {d : Nat} {c g h : Nat} (hc : lay[c]? = some (.inr (.inr (0, [some g, some h])))) (hg : lay[g]? = some (.inl 40)) (hh : lay[h]? = some (.inl 10)) (p1 : Int32) (S : St) : SemG eI X k_L_drinkOf (d + 2) 0 [some (.ref (xB X + c)), some (.int p1)] [] S (f_L_drinkOf c g h p1 S) := by
  unfold f_L_drinkOf
  refine g_aload_n d_L_drinkOf_0 rfl ?_
  refine g_getR d_L_drinkOf_1 fl_L_9 hc rfl ?_
  refine g_iconst d_L_drinkOf_4 ?_
  refine g_ild d_L_drinkOf_5 hh il_5_10.1 il_5_10.2 ?_
  refine g_iload_n d_L_drinkOf_6 rfl ?_
  refine g_callN1I d_L_drinkOf_7 nl_L_36 sk_S_workOf rfl (Nat.le_of_ble_eq_true rfl) (w_S_workOf (X := X) (d := d + 1) _ _) (fun q1 => ?_)
  refine g_iconst d_L_drinkOf_10 ?_
  refine g_iadd d_L_drinkOf_11 ?_
  refine g_imul d_L_drinkOf_12 ?_
  refine g_aload_n d_L_drinkOf_13 rfl ?_
  refine g_callV0I d_L_drinkOf_14 ml_L_40 vk_L_heat hc ⟨_, rfl, rfl⟩ (Nat.le_of_ble_eq_true rfl) (w_L_heat (X := X) (d := d) hc hg hh _) (fun q2 => ?_)
  refine g_imul d_L_drinkOf_17 ?_
  refine g_aload_n d_L_drinkOf_18 rfl ?_
  refine g_iload_n d_L_drinkOf_19 rfl ?_
  refine g_callV1I d_L_drinkOf_20 ml_L_43 vk_L_minutesOf hc ⟨_, rfl, rfl⟩ rfl (Nat.le_of_ble_eq_true rfl) (w_L_minutesOf (X := X) (d := d + 1) hc hg hh _ _) (fun q3 => ?_)
  refine g_imul d_L_drinkOf_23 ?_
  refine g_bipush d_L_drinkOf_24 ?_
  refine g_idiv d_L_drinkOf_26 (by decide) ?_
  exact g_ireturn d_L_drinkOf_27 rfl rfl rfl
def f_L_passHours (c g h : Nat) (p1 : Int32) (S : St) : Option (St) := (if p1 ≤ 0 then some S else let S2 := put S h 7 ((((S h 7) / 60) + p1) * 60); some S2)
set_option maxRecDepth 4000 in
theorem w_L_passHours {X : xC} {d : Nat} {c g h : Nat} (hc : lay[c]? = some (.inr (.inr (0, [some g, some h])))) (hg : lay[g]? = some (.inl 40)) (hh : lay[h]? = some (.inl 10)) (p1 : Int32) (S : St) : SemG eV X k_L_passHours (d) 0 [some (.ref (xB X + c)), some (.int p1)] [] S (f_L_passHours c g h p1 S) := by
  unfold f_L_passHours
  refine g_iload_n d_L_passHours_0 rfl ?_
  refine s_if_le d_L_passHours_1 (fun u1 => ?_) (fun u1 => ?_)
  · exact g_return d_L_passHours_26 rfl rfl
  · refine g_aload_n d_L_passHours_4 rfl ?_
    refine g_getR d_L_passHours_5 fl_L_9 hc rfl ?_
    refine g_bipush d_L_passHours_8 ?_
    refine g_aload_n d_L_passHours_10 rfl ?_
    refine g_getR d_L_passHours_11 fl_L_9 hc rfl ?_
    refine g_bipush d_L_passHours_14 ?_
    refine g_ild d_L_passHours_16 hh il_7_10.1 il_7_10.2 ?_
    refine g_bipush d_L_passHours_17 ?_
    refine g_idiv d_L_passHours_19 (by decide) ?_
    refine g_iload_n d_L_passHours_20 rfl ?_
    refine g_iadd d_L_passHours_21 ?_
    refine g_bipush d_L_passHours_22 ?_
    refine g_imul d_L_passHours_24 ?_
    refine g_ist d_L_passHours_25 hh il_7_10.1 il_7_10.2 ?_
    exact g_return d_L_passHours_26 rfl rfl
def f_L_become (c g h c1 g1 h1 : Nat) (S : St) : Option (St) := let S1 := cpy S h1 h 0 0 10; some S1
set_option maxRecDepth 4000 in
theorem w_L_become {X : xC} {d : Nat} {c g h c1 g1 h1 : Nat} (hc : lay[c]? = some (.inr (.inr (0, [some g, some h])))) (hg : lay[g]? = some (.inl 40)) (hh : lay[h]? = some (.inl 10)) (hc1 : lay[c1]? = some (.inr (.inr (0, [some g1, some h1])))) (hg1 : lay[g1]? = some (.inl 40)) (hh1 : lay[h1]? = some (.inl 10)) (S : St) : SemG eV X k_L_become (d + 1) 0 [some (.ref (xB X + c)), some (.ref (xB X + c1))] [] S (f_L_become c g h c1 g1 h1  S) := by
  unfold f_L_become
  refine g_aload_n d_L_become_0 rfl ?_
  refine g_getR d_L_become_1 fl_L_9 hc1 rfl ?_
  refine g_iconst d_L_become_4 ?_
  refine g_aload_n d_L_become_5 rfl ?_
  refine g_getR d_L_become_6 fl_L_9 hc rfl ?_
  refine g_iconst d_L_become_9 ?_
  refine g_bipush d_L_become_10 ?_
  refine g_copy d_L_become_12 ml_L_18 (Nat.le_of_ble_eq_true rfl) hh1 hh (by decide) ?_
  exact g_return d_L_become_15 rfl rfl
def f_L_since (c g h c1 g1 h1 : Nat) (p2 : Int32) (S : St) : Option (Int32 × St) := (if p2 < 0 then some (0, S) else (if 10 ≤ p2 then some (0, S) else (if inb p2 10 = true then some (((S h (p2).toNatClampNeg) - (S h1 (p2).toNatClampNeg)), S) else none)))
set_option maxRecDepth 4000 in
theorem w_L_since {X : xC} {d : Nat} {c g h c1 g1 h1 : Nat} (hc : lay[c]? = some (.inr (.inr (0, [some g, some h])))) (hg : lay[g]? = some (.inl 40)) (hh : lay[h]? = some (.inl 10)) (hc1 : lay[c1]? = some (.inr (.inr (0, [some g1, some h1])))) (hg1 : lay[g1]? = some (.inl 40)) (hh1 : lay[h1]? = some (.inl 10)) (p2 : Int32) (S : St) : SemG eI X k_L_since (d) 0 [some (.ref (xB X + c)), some (.ref (xB X + c1)), some (.int p2)] [] S (f_L_since c g h c1 g1 h1 p2 S) := by
  unfold f_L_since
  refine g_iload_n d_L_since_0 rfl ?_
  refine s_if_lt d_L_since_1 (fun u1 => ?_) (fun u1 => ?_)
  · refine g_iconst d_L_since_26 ?_
    exact g_ireturn d_L_since_27 rfl rfl rfl
  · refine g_iload_n d_L_since_4 rfl ?_
    refine g_bipush d_L_since_5 ?_
    refine s_icmp_ge d_L_since_7 (fun u2 => ?_) (fun u2 => ?_)
    · refine g_iconst d_L_since_26 ?_
      exact g_ireturn d_L_since_27 rfl rfl rfl
    · refine g_aload_n d_L_since_10 rfl ?_
      refine g_getR d_L_since_11 fl_L_9 hc rfl ?_
      refine g_iload_n d_L_since_14 rfl ?_
      refine g_guard (fun hb3 => ?_)
      refine g_ild d_L_since_15 hh hb3 rfl ?_
      refine g_aload_n d_L_since_16 rfl ?_
      refine g_getR d_L_since_17 fl_L_9 hc1 rfl ?_
      refine g_iload_n d_L_since_20 rfl ?_
      refine g_ild d_L_since_21 hh1 hb3 rfl ?_
      refine g_isub d_L_since_22 ?_
      refine g_goto d_L_since_23 ?_
      exact g_ireturn d_L_since_27 rfl rfl rfl
def f_L_push (c g h : Nat) (p1 p2 p3 : Int32) (S : St) : Option (Bool × St) := ((f_S_isYard (S h 0) S).bind fun q1 => (if (bI q1.1) = 0 then some (false, q1.2) else let S3 := put q1.2 h 9 ((q1.2 h 9) + 1); (if inb (S h 0) 40 = true then ((f_L_gripOf c g h (S3 g ((S h 0)).toNatClampNeg) (S3 h 3) S3).bind fun q5 => let x7 : Int32 := (if p2 ≤ (S h 0) then 0 else 30); ((f_L_weight c g h q5.2).bind fun q8 => (if (q8.1 - p3) ≤ (q5.1 + x7) then let S10 := put q8.2 h 0 ((S h 0) + p1); let S11 := put S10 h 1 0; some (true, S11) else let x12 : Int32 := (if ((q8.2 h 1) + 4) < 99 then ((q8.2 h 1) + 4) else 99); let S13 := put q8.2 h 1 x12; some (false, S13)))) else none)))
set_option maxRecDepth 4000 in
theorem w_L_push {X : xC} {d : Nat} {c g h : Nat} (hc : lay[c]? = some (.inr (.inr (0, [some g, some h])))) (hg : lay[g]? = some (.inl 40)) (hh : lay[h]? = some (.inl 10)) (p1 p2 p3 : Int32) (S : St) : SemG eB X k_L_push (d + 2) 0 [some (.ref (xB X + c)), some (.int p1), some (.int p2), some (.int p3), none, none] [] S (f_L_push c g h p1 p2 p3 S) := by
  unfold f_L_push
  refine g_aload_n d_L_push_0 rfl ?_
  refine g_getR d_L_push_1 fl_L_9 hc rfl ?_
  refine g_iconst d_L_push_4 ?_
  refine g_ild d_L_push_5 hh il_0_10.1 il_0_10.2 ?_
  refine g_istore d_L_push_6 (by decide) ?_
  refine g_iload d_L_push_8 rfl ?_
  refine g_callN1B d_L_push_10 nl_L_24 sk_S_isYard rfl (Nat.le_of_ble_eq_true rfl) (w_S_isYard (X := X) (d := d + 1) _ _) (fun q1 => ?_)
  refine s_if_ne d_L_push_13 (fun u2 => ?_) (fun u2 => ?_)
  · refine g_aload_n d_L_push_18 rfl ?_
    refine g_getR d_L_push_19 fl_L_9 hc rfl ?_
    refine g_bipush d_L_push_22 ?_
    refine g_dup2 d_L_push_24 rfl rfl ?_
    refine g_ild d_L_push_25 hh il_9_10.1 il_9_10.2 ?_
    refine g_iconst d_L_push_26 ?_
    refine g_iadd d_L_push_27 ?_
    refine g_ist d_L_push_28 hh il_9_10.1 il_9_10.2 ?_
    refine g_aload_n d_L_push_29 rfl ?_
    refine g_aload_n d_L_push_30 rfl ?_
    refine g_getR d_L_push_31 fl_L_15 hc rfl ?_
    refine g_iload d_L_push_34 rfl ?_
    refine g_guard (fun hb4 => ?_)
    refine g_ild d_L_push_36 hg hb4 rfl ?_
    refine g_aload_n d_L_push_37 rfl ?_
    refine g_getR d_L_push_38 fl_L_9 hc rfl ?_
    refine g_iconst d_L_push_41 ?_
    refine g_ild d_L_push_42 hh il_3_10.1 il_3_10.2 ?_
    refine g_callV2I d_L_push_43 ml_L_73 vk_L_gripOf hc ⟨_, rfl, rfl⟩ rfl rfl (Nat.le_of_ble_eq_true rfl) (w_L_gripOf (X := X) (d := d) hc hg hh _ _ _) (fun q5 => ?_)
    refine g_iload d_L_push_46 rfl ?_
    refine g_iload_n d_L_push_48 rfl ?_
    refine m_icmp_ge d_L_push_49 (fun hJ6 => g_iconst d_L_push_57 hJ6) (fun hJ6 => g_bipush d_L_push_52 (g_goto d_L_push_54 hJ6)) ?_
    refine g_iadd d_L_push_58 ?_
    refine g_istore d_L_push_59 (by decide) ?_
    refine g_iload d_L_push_61 rfl ?_
    refine g_aload_n d_L_push_63 rfl ?_
    refine g_callV0I d_L_push_64 ml_L_76 vk_L_weight hc ⟨_, rfl, rfl⟩ (Nat.le_of_ble_eq_true rfl) (w_L_weight (X := X) (d := d) hc hg hh _) (fun q8 => ?_)
    refine g_iload_n d_L_push_67 rfl ?_
    refine g_isub d_L_push_68 ?_
    refine s_icmp_ge d_L_push_69 (fun u9 => ?_) (fun u9 => ?_)
    · refine g_aload_n d_L_push_93 rfl ?_
      refine g_getR d_L_push_94 fl_L_9 hc rfl ?_
      refine g_iconst d_L_push_97 ?_
      refine g_iload d_L_push_98 rfl ?_
      refine g_iload_n d_L_push_100 rfl ?_
      refine g_iadd d_L_push_101 ?_
      refine g_ist d_L_push_102 hh il_0_10.1 il_0_10.2 ?_
      refine g_aload_n d_L_push_103 rfl ?_
      refine g_getR d_L_push_104 fl_L_9 hc rfl ?_
      refine g_iconst d_L_push_107 ?_
      refine g_iconst d_L_push_108 ?_
      refine g_ist d_L_push_109 hh il_1_10.1 il_1_10.2 ?_
      refine g_iconst d_L_push_110 ?_
      refine g_zreturn d_L_push_111 rfl ?_ rfl
      rfl
    · refine g_aload_n d_L_push_72 rfl ?_
      refine g_getR d_L_push_73 fl_L_9 hc rfl ?_
      refine g_iconst d_L_push_76 ?_
      refine g_bipush d_L_push_77 ?_
      refine g_aload_n d_L_push_79 rfl ?_
      refine g_getR d_L_push_80 fl_L_9 hc rfl ?_
      refine g_iconst d_L_push_83 ?_
      refine g_ild d_L_push_84 hh il_1_10.1 il_1_10.2 ?_
      refine g_iconst d_L_push_85 ?_
      refine g_iadd d_L_push_86 ?_
      refine g_mmin d_L_push_87 ml_L_62 (Nat.le_of_ble_eq_true rfl) ?_
      refine g_ist d_L_push_90 hh il_1_10.1 il_1_10.2 ?_
      refine g_iconst d_L_push_91 ?_
      refine g_zreturn d_L_push_92 rfl ?_ rfl
      rfl
  · refine g_iconst d_L_push_16 ?_
    refine g_zreturn d_L_push_17 rfl ?_ rfl
    rfl
def f_S_kindAbove (p1 : Int32) (S : St) : Option (Int32 × St) := (if p1 = 2 then some (1, S) else (if p1 = 5 then some (2, S) else some (0, S)))
set_option maxRecDepth 4000 in
theorem w_S_kindAbove {X : xC} {d : Nat}  (p1 : Int32) (S : St) : SemG eI X k_S_kindAbove (d) 0 [some (.int p1)] [] S (f_S_kindAbove  p1 S) := by
  unfold f_S_kindAbove
  refine g_iload_n d_S_kindAbove_0 rfl ?_
  refine g_ite (fun u1 => ?_) (fun u1 => ?_)
  · refine g_lcase (off := 27) (tgt := 28) d_S_kindAbove_1 u1 (by decide) ?_
    refine g_iconst d_S_kindAbove_28 ?_
    exact g_ireturn d_S_kindAbove_29 rfl rfl rfl
  refine g_ite (fun u2 => ?_) (fun u2 => ?_)
  · refine g_lcase (off := 29) (tgt := 30) d_S_kindAbove_1 u2 (by decide) ?_
    refine g_iconst d_S_kindAbove_30 ?_
    exact g_ireturn d_S_kindAbove_31 rfl rfl rfl
  refine g_ldef2 (tgt := 32) d_S_kindAbove_1 (ne32 u1 (by decide)) (ne32 u2 (by decide)) (by decide) (by decide) ?_
  refine g_iconst d_S_kindAbove_32 ?_
  exact g_ireturn d_S_kindAbove_33 rfl rfl rfl
def f_S_isOfKind_L4 : Nat → Int32 → Int32 → Int32 → Int32 → St → Option (Bool × St)
  | 0, _, _, _, _, _ => none
  | n + 1, y0, y1, y2, y3, S => (if 8 ≤ y3 then let x3 : Int32 := (if y2 = y1 then 1 else 0); some ((if y2 = y1 then true else false), S) else (if y2 = y1 then let x6 : Int32 := (if y2 = y1 then 1 else 0); some ((if y2 = y1 then true else false), S) else (if y2 = 0 then let x9 : Int32 := (if y2 = y1 then 1 else 0); some ((if y2 = y1 then true else false), S) else ((f_S_kindAbove y2 S).bind fun q10 => f_S_isOfKind_L4  n y0 y1 q10.1 (y3 + 1) q10.2))))
set_option maxRecDepth 4000 in
theorem w_S_isOfKind_L4 {X : xC} {d : Nat}  : ∀ (n : Nat) (y0 y1 y2 y3 : Int32) (S : St), SemG eB X k_S_isOfKind (d + 1) 4 [some (.int y0), some (.int y1), some (.int y2), some (.int y3)] [] S (f_S_isOfKind_L4  n y0 y1 y2 y3 S) := by
  intro n
  induction n with
  | zero => intro _ _ _ _ _; exact g_none
  | succ n ih =>
    intro y0 y1 y2 y3 S
    unfold f_S_isOfKind_L4
    refine g_iload_n d_S_isOfKind_4 rfl ?_
    refine g_bipush d_S_isOfKind_5 ?_
    refine s_icmp_ge d_S_isOfKind_7 (fun u1 => ?_) (fun u1 => ?_)
    · refine g_iload_n d_S_isOfKind_30 rfl ?_
      refine g_iload_n d_S_isOfKind_31 rfl ?_
      refine m_icmp_ne d_S_isOfKind_32 (fun hJ2 => g_iconst d_S_isOfKind_39 hJ2) (fun hJ2 => g_iconst d_S_isOfKind_35 (g_goto d_S_isOfKind_36 hJ2)) ?_
      refine g_zreturn d_S_isOfKind_40 rfl ?_ rfl
      (repeat' split) <;> rfl
    · refine g_iload_n d_S_isOfKind_10 rfl ?_
      refine g_iload_n d_S_isOfKind_11 rfl ?_
      refine s_icmp_eq d_S_isOfKind_12 (fun u4 => ?_) (fun u4 => ?_)
      · refine g_iload_n d_S_isOfKind_30 rfl ?_
        refine g_iload_n d_S_isOfKind_31 rfl ?_
        refine m_icmp_ne d_S_isOfKind_32 (fun hJ5 => g_iconst d_S_isOfKind_39 hJ5) (fun hJ5 => g_iconst d_S_isOfKind_35 (g_goto d_S_isOfKind_36 hJ5)) ?_
        refine g_zreturn d_S_isOfKind_40 rfl ?_ rfl
        (repeat' split) <;> rfl
      · refine g_iload_n d_S_isOfKind_15 rfl ?_
        refine s_if_eq d_S_isOfKind_16 (fun u7 => ?_) (fun u7 => ?_)
        · refine g_iload_n d_S_isOfKind_30 rfl ?_
          refine g_iload_n d_S_isOfKind_31 rfl ?_
          refine m_icmp_ne d_S_isOfKind_32 (fun hJ8 => g_iconst d_S_isOfKind_39 hJ8) (fun hJ8 => g_iconst d_S_isOfKind_35 (g_goto d_S_isOfKind_36 hJ8)) ?_
          refine g_zreturn d_S_isOfKind_40 rfl ?_ rfl
          (repeat' split) <;> rfl
        · refine g_iload_n d_S_isOfKind_19 rfl ?_
          refine g_callS1I d_S_isOfKind_20 ml_S_241 sk_S_kindAbove rfl (Nat.le_of_ble_eq_true rfl) (w_S_kindAbove (X := X) (d := d) _ _) (fun q10 => ?_)
          refine g_istore_n d_S_isOfKind_23 (by decide) ?_
          refine g_iinc d_S_isOfKind_24 (by decide) rfl ?_
          refine g_goto d_S_isOfKind_27 ?_
          exact ih _ _ _ _ _
def f_S_isOfKind (p1 p2 : Int32) (S : St) : Option (Bool × St) := f_S_isOfKind_L4  200 p1 p2 p1 0 S
set_option maxRecDepth 4000 in
theorem w_S_isOfKind {X : xC} {d : Nat}  (p1 p2 : Int32) (S : St) : SemG eB X k_S_isOfKind (d + 1) 0 [some (.int p1), some (.int p2), none, none] [] S (f_S_isOfKind  p1 p2 S) := by
  unfold f_S_isOfKind
  refine g_iload_n d_S_isOfKind_0 rfl ?_
  refine g_istore_n d_S_isOfKind_1 (by decide) ?_
  refine g_iconst d_S_isOfKind_2 ?_
  refine g_istore_n d_S_isOfKind_3 (by decide) ?_
  exact w_S_isOfKind_L4 (X := X) (d := d) 200 _ _ _ _ _
def f_L_drive_L77 (c g h : Nat) : Nat → Int32 → Int32 → Int32 → Int32 → Int32 → Int32 → Int32 → Int32 → St → Option (St)
  | 0, _, _, _, _, _, _, _, _, _ => none
  | n + 1, y1, y2, y3, y4, y5, y6, y7, y8, S => (if y6 ≤ y8 then some S else (if y7 = 0 then some S else ((f_L_push c g h y5 y3 y4 S).bind fun q13 => f_L_drive_L77 c g h n y1 y2 y3 y4 y5 y6 (bI q13.1) (y8 + 1) q13.2)))
set_option maxRecDepth 4000 in
theorem w_L_drive_L77 {X : xC} {d : Nat} {c g h : Nat} (hc : lay[c]? = some (.inr (.inr (0, [some g, some h])))) (hg : lay[g]? = some (.inl 40)) (hh : lay[h]? = some (.inl 10)) : ∀ (n : Nat) (y1 y2 y3 y4 y5 y6 y7 y8 : Int32) (S : St), SemG eV X k_L_drive (d + 3) 77 [some (.ref (xB X + c)), some (.int y1), some (.int y2), some (.int y3), some (.int y4), some (.int y5), some (.int y6), some (.int y7), some (.int y8)] [] S (f_L_drive_L77 c g h n y1 y2 y3 y4 y5 y6 y7 y8 S) := by
  intro n
  induction n with
  | zero => intro _ _ _ _ _ _ _ _ _; exact g_none
  | succ n ih =>
    intro y1 y2 y3 y4 y5 y6 y7 y8 S
    unfold f_L_drive_L77
    refine g_iload d_L_drive_77 rfl ?_
    refine g_iload d_L_drive_79 rfl ?_
    refine s_icmp_ge d_L_drive_81 (fun u11 => ?_) (fun u11 => ?_)
    · exact g_return d_L_drive_106 rfl rfl
    · refine g_iload d_L_drive_84 rfl ?_
      refine s_if_eq d_L_drive_86 (fun u12 => ?_) (fun u12 => ?_)
      · exact g_return d_L_drive_106 rfl rfl
      · refine g_aload_n d_L_drive_89 rfl ?_
        refine g_iload d_L_drive_90 rfl ?_
        refine g_iload_n d_L_drive_92 rfl ?_
        refine g_iload d_L_drive_93 rfl ?_
        refine g_callV3B d_L_drive_95 ml_L_69 vk_L_push hc ⟨_, rfl, rfl⟩ rfl rfl rfl (Nat.le_of_ble_eq_true rfl) (w_L_push (X := X) (d := d) hc hg hh _ _ _ _) (fun q13 => ?_)
        refine g_istore d_L_drive_98 (by decide) ?_
        refine g_iinc d_L_drive_100 (by decide) rfl ?_
        refine g_goto d_L_drive_103 ?_
        exact ih _ _ _ _ _ _ _ _ _
def f_L_drive (c g h : Nat) (p1 : Int32) (S : St) : Option (St) := ((f_S_isOfKind p1 2 S).bind fun q1 => let x3 : Int32 := (if (bI q1.1) = 0 then 0 else (q1.2 h 4)); let x5 : Int32 := (if x3 ≤ 0 then 0 else ((q1.2 h 0) + x3)); let x7 : Int32 := (if p1 = 5 then 15 else 0); let x9 : Int32 := (if p1 = 6 then (-1) else 1); let x10 : Int32 := (if 3 < (x3 + 1) then (x3 + 1) else 3); f_L_drive_L77 c g h 200 p1 x3 x5 x7 x9 x10 1 0 q1.2)
set_option maxRecDepth 4000 in
theorem w_L_drive {X : xC} {d : Nat} {c g h : Nat} (hc : lay[c]? = some (.inr (.inr (0, [some g, some h])))) (hg : lay[g]? = some (.inl 40)) (hh : lay[h]? = some (.inl 10)) (p1 : Int32) (S : St) : SemG eV X k_L_drive (d + 3) 0 [some (.ref (xB X + c)), some (.int p1), none, none, none, none, none, none, none] [] S (f_L_drive c g h p1 S) := by
  unfold f_L_drive
  refine g_iload_n d_L_drive_0 rfl ?_
  refine g_iconst d_L_drive_1 ?_
  refine g_callN2B d_L_drive_2 nl_L_53 sk_S_isOfKind rfl rfl (Nat.le_of_ble_eq_true rfl) (w_S_isOfKind (X := X) (d := d + 1) _ _ _) (fun q1 => ?_)
  refine m_if_eq d_L_drive_5 (fun hJ2 => g_iconst d_L_drive_17 hJ2) (fun hJ2 => g_aload_n d_L_drive_8 rfl (g_getR d_L_drive_9 fl_L_9 hc rfl (g_iconst d_L_drive_12 (g_ild d_L_drive_13 hh il_4_10.1 il_4_10.2 (g_goto d_L_drive_14 hJ2))))) ?_
  refine g_istore_n d_L_drive_18 (by decide) ?_
  refine g_iload_n d_L_drive_19 rfl ?_
  refine m_if_le d_L_drive_20 (fun hJ4 => g_iconst d_L_drive_34 hJ4) (fun hJ4 => g_aload_n d_L_drive_23 rfl (g_getR d_L_drive_24 fl_L_9 hc rfl (g_iconst d_L_drive_27 (g_ild d_L_drive_28 hh il_0_10.1 il_0_10.2 (g_iload_n d_L_drive_29 rfl (g_iadd d_L_drive_30 (g_goto d_L_drive_31 hJ4))))))) ?_
  refine g_istore_n d_L_drive_35 (by decide) ?_
  refine g_iload_n d_L_drive_36 rfl ?_
  refine g_iconst d_L_drive_37 ?_
  refine m_icmp_ne d_L_drive_38 (fun hJ6 => g_iconst d_L_drive_46 hJ6) (fun hJ6 => g_bipush d_L_drive_41 (g_goto d_L_drive_43 hJ6)) ?_
  refine g_istore d_L_drive_47 (by decide) ?_
  refine g_iload_n d_L_drive_49 rfl ?_
  refine g_bipush d_L_drive_50 ?_
  refine m_icmp_ne d_L_drive_52 (fun hJ8 => g_iconst d_L_drive_59 hJ8) (fun hJ8 => g_iconst d_L_drive_55 (g_goto d_L_drive_56 hJ8)) ?_
  refine g_istore d_L_drive_60 (by decide) ?_
  refine g_iconst d_L_drive_62 ?_
  refine g_iload_n d_L_drive_63 rfl ?_
  refine g_iconst d_L_drive_64 ?_
  refine g_iadd d_L_drive_65 ?_
  refine g_mmax d_L_drive_66 ml_L_57 (Nat.le_of_ble_eq_true rfl) ?_
  refine g_istore d_L_drive_69 (by decide) ?_
  refine g_iconst d_L_drive_71 ?_
  refine g_istore d_L_drive_72 (by decide) ?_
  refine g_iconst d_L_drive_74 ?_
  refine g_istore d_L_drive_75 (by decide) ?_
  exact w_L_drive_L77 (X := X) (d := d) hc hg hh 200 _ _ _ _ _ _ _ _ _
def f_L_carriesOut (c g h : Nat) (p1 : Int32) (S : St) : Option (Bool × St) := ((f_L_drinkOf c g h p1 S).bind fun q1 => ((f_L_isOut c g h q1.2).bind fun q2 => (if (bI q2.1) = 0 then (if q1.1 ≤ (q2.2 h 6) then ((f_L_minutesOf c g h p1 q2.2).bind fun q5 => let S6 := put q5.2 h 7 ((q2.2 h 7) + q5.1); let S7 := put S6 h 6 ((S6 h 6) - q1.1); let S8 := put S7 h 8 ((S7 h 8) + q1.1); ((f_S_isOfKind p1 1 S8).bind fun q9 => (if (bI q9.1) = 0 then (if p1 = 3 then let x19 : Int32 := (if 0 < ((q9.2 h 2) - 10) then ((q9.2 h 2) - 10) else 0); let S20 := put q9.2 h 2 x19; (if p1 = 4 then let x24 : Int32 := (if ((S20 h 3) + 3) < 9 then ((S20 h 3) + 3) else 9); let S25 := put S20 h 3 x24; (if p1 = 7 then some (true, S25) else ((f_L_drive c g h p1 S25).bind fun q27 => some (true, q27))) else (if p1 = 7 then some (true, S20) else ((f_L_drive c g h p1 S20).bind fun q23 => some (true, q23)))) else (if p1 = 4 then let x15 : Int32 := (if ((q9.2 h 3) + 3) < 9 then ((q9.2 h 3) + 3) else 9); let S16 := put q9.2 h 3 x15; (if p1 = 7 then some (true, S16) else ((f_L_drive c g h p1 S16).bind fun q18 => some (true, q18))) else (if p1 = 7 then some (true, q9.2) else ((f_L_drive c g h p1 q9.2).bind fun q14 => some (true, q14))))) else let x28 : Int32 := (if 0 < ((q9.2 h 1) - (10 * (q9.2 h 5))) then ((q9.2 h 1) - (10 * (q9.2 h 5))) else 0); let S29 := put q9.2 h 1 x28; (if p1 = 3 then let x38 : Int32 := (if 0 < ((S29 h 2) - 10) then ((S29 h 2) - 10) else 0); let S39 := put S29 h 2 x38; (if p1 = 4 then let x43 : Int32 := (if ((S39 h 3) + 3) < 9 then ((S39 h 3) + 3) else 9); let S44 := put S39 h 3 x43; (if p1 = 7 then some (true, S44) else ((f_L_drive c g h p1 S44).bind fun q46 => some (true, q46))) else (if p1 = 7 then some (true, S39) else ((f_L_drive c g h p1 S39).bind fun q42 => some (true, q42)))) else (if p1 = 4 then let x34 : Int32 := (if ((S29 h 3) + 3) < 9 then ((S29 h 3) + 3) else 9); let S35 := put S29 h 3 x34; (if p1 = 7 then some (true, S35) else ((f_L_drive c g h p1 S35).bind fun q37 => some (true, q37))) else (if p1 = 7 then some (true, S29) else ((f_L_drive c g h p1 S29).bind fun q33 => some (true, q33)))))))) else some (false, q2.2)) else some (false, q2.2))))
set_option maxRecDepth 4000 in
theorem w_L_carriesOut {X : xC} {d : Nat} {c g h : Nat} (hc : lay[c]? = some (.inr (.inr (0, [some g, some h])))) (hg : lay[g]? = some (.inl 40)) (hh : lay[h]? = some (.inl 10)) (p1 : Int32) (S : St) : SemG eB X k_L_carriesOut (d + 4) 0 [some (.ref (xB X + c)), some (.int p1), none] [] S (f_L_carriesOut c g h p1 S) := by
  unfold f_L_carriesOut
  refine g_aload_n d_L_carriesOut_0 rfl ?_
  refine g_iload_n d_L_carriesOut_1 rfl ?_
  refine g_callV1I d_L_carriesOut_2 ml_L_46 vk_L_drinkOf hc ⟨_, rfl, rfl⟩ rfl (Nat.le_of_ble_eq_true rfl) (w_L_drinkOf (X := X) (d := d + 1) hc hg hh _ _) (fun q1 => ?_)
  refine g_istore_n d_L_carriesOut_5 (by decide) ?_
  refine g_aload_n d_L_carriesOut_6 rfl ?_
  refine g_callV0B d_L_carriesOut_7 ml_L_49 vk_L_isOut hc ⟨_, rfl, rfl⟩ (Nat.le_of_ble_eq_true rfl) (w_L_isOut (X := X) (d := d + 2) hc hg hh _) (fun q2 => ?_)
  refine s_if_ne d_L_carriesOut_10 (fun u3 => ?_) (fun u3 => ?_)
  · refine g_iconst d_L_carriesOut_24 ?_
    refine g_zreturn d_L_carriesOut_25 rfl ?_ rfl
    rfl
  · refine g_aload_n d_L_carriesOut_13 rfl ?_
    refine g_getR d_L_carriesOut_14 fl_L_9 hc rfl ?_
    refine g_bipush d_L_carriesOut_17 ?_
    refine g_ild d_L_carriesOut_19 hh il_6_10.1 il_6_10.2 ?_
    refine g_iload_n d_L_carriesOut_20 rfl ?_
    refine s_icmp_ge d_L_carriesOut_21 (fun u4 => ?_) (fun u4 => ?_)
    · refine g_aload_n d_L_carriesOut_26 rfl ?_
      refine g_getR d_L_carriesOut_27 fl_L_9 hc rfl ?_
      refine g_bipush d_L_carriesOut_30 ?_
      refine g_dup2 d_L_carriesOut_32 rfl rfl ?_
      refine g_ild d_L_carriesOut_33 hh il_7_10.1 il_7_10.2 ?_
      refine g_aload_n d_L_carriesOut_34 rfl ?_
      refine g_iload_n d_L_carriesOut_35 rfl ?_
      refine g_callV1I d_L_carriesOut_36 ml_L_43 vk_L_minutesOf hc ⟨_, rfl, rfl⟩ rfl (Nat.le_of_ble_eq_true rfl) (w_L_minutesOf (X := X) (d := d + 3) hc hg hh _ _) (fun q5 => ?_)
      refine g_iadd d_L_carriesOut_39 ?_
      refine g_ist d_L_carriesOut_40 hh il_7_10.1 il_7_10.2 ?_
      refine g_aload_n d_L_carriesOut_41 rfl ?_
      refine g_getR d_L_carriesOut_42 fl_L_9 hc rfl ?_
      refine g_bipush d_L_carriesOut_45 ?_
      refine g_dup2 d_L_carriesOut_47 rfl rfl ?_
      refine g_ild d_L_carriesOut_48 hh il_6_10.1 il_6_10.2 ?_
      refine g_iload_n d_L_carriesOut_49 rfl ?_
      refine g_isub d_L_carriesOut_50 ?_
      refine g_ist d_L_carriesOut_51 hh il_6_10.1 il_6_10.2 ?_
      refine g_aload_n d_L_carriesOut_52 rfl ?_
      refine g_getR d_L_carriesOut_53 fl_L_9 hc rfl ?_
      refine g_bipush d_L_carriesOut_56 ?_
      refine g_dup2 d_L_carriesOut_58 rfl rfl ?_
      refine g_ild d_L_carriesOut_59 hh il_8_10.1 il_8_10.2 ?_
      refine g_iload_n d_L_carriesOut_60 rfl ?_
      refine g_iadd d_L_carriesOut_61 ?_
      refine g_ist d_L_carriesOut_62 hh il_8_10.1 il_8_10.2 ?_
      refine g_iload_n d_L_carriesOut_63 rfl ?_
      refine g_iconst d_L_carriesOut_64 ?_
      refine g_callN2B d_L_carriesOut_65 nl_L_53 sk_S_isOfKind rfl rfl (Nat.le_of_ble_eq_true rfl) (w_S_isOfKind (X := X) (d := d + 2) _ _ _) (fun q9 => ?_)
      refine s_if_eq d_L_carriesOut_68 (fun u10 => ?_) (fun u10 => ?_)
      · refine g_iload_n d_L_carriesOut_97 rfl ?_
        refine g_iconst d_L_carriesOut_98 ?_
        refine s_icmp_ne d_L_carriesOut_99 (fun u11 => ?_) (fun u11 => ?_)
        · refine g_iload_n d_L_carriesOut_121 rfl ?_
          refine g_iconst d_L_carriesOut_122 ?_
          refine s_icmp_ne d_L_carriesOut_123 (fun u12 => ?_) (fun u12 => ?_)
          · refine g_iload_n d_L_carriesOut_145 rfl ?_
            refine g_bipush d_L_carriesOut_146 ?_
            refine s_icmp_eq d_L_carriesOut_148 (fun u13 => ?_) (fun u13 => ?_)
            · refine g_iconst d_L_carriesOut_156 ?_
              refine g_zreturn d_L_carriesOut_157 rfl ?_ rfl
              rfl
            · refine g_aload_n d_L_carriesOut_151 rfl ?_
              refine g_iload_n d_L_carriesOut_152 rfl ?_
              refine g_callV1V d_L_carriesOut_153 ml_L_65 vk_L_drive hc ⟨_, rfl, rfl⟩ rfl (Nat.le_of_ble_eq_true rfl) (w_L_drive (X := X) (d := d) hc hg hh _ _) (fun q14 => ?_)
              refine g_iconst d_L_carriesOut_156 ?_
              refine g_zreturn d_L_carriesOut_157 rfl ?_ rfl
              rfl
          · refine g_aload_n d_L_carriesOut_126 rfl ?_
            refine g_getR d_L_carriesOut_127 fl_L_9 hc rfl ?_
            refine g_iconst d_L_carriesOut_130 ?_
            refine g_bipush d_L_carriesOut_131 ?_
            refine g_aload_n d_L_carriesOut_133 rfl ?_
            refine g_getR d_L_carriesOut_134 fl_L_9 hc rfl ?_
            refine g_iconst d_L_carriesOut_137 ?_
            refine g_ild d_L_carriesOut_138 hh il_3_10.1 il_3_10.2 ?_
            refine g_iconst d_L_carriesOut_139 ?_
            refine g_iadd d_L_carriesOut_140 ?_
            refine g_mmin d_L_carriesOut_141 ml_L_62 (Nat.le_of_ble_eq_true rfl) ?_
            refine g_ist d_L_carriesOut_144 hh il_3_10.1 il_3_10.2 ?_
            refine g_iload_n d_L_carriesOut_145 rfl ?_
            refine g_bipush d_L_carriesOut_146 ?_
            refine s_icmp_eq d_L_carriesOut_148 (fun u17 => ?_) (fun u17 => ?_)
            · refine g_iconst d_L_carriesOut_156 ?_
              refine g_zreturn d_L_carriesOut_157 rfl ?_ rfl
              rfl
            · refine g_aload_n d_L_carriesOut_151 rfl ?_
              refine g_iload_n d_L_carriesOut_152 rfl ?_
              refine g_callV1V d_L_carriesOut_153 ml_L_65 vk_L_drive hc ⟨_, rfl, rfl⟩ rfl (Nat.le_of_ble_eq_true rfl) (w_L_drive (X := X) (d := d) hc hg hh _ _) (fun q18 => ?_)
              refine g_iconst d_L_carriesOut_156 ?_
              refine g_zreturn d_L_carriesOut_157 rfl ?_ rfl
              rfl
        · refine g_aload_n d_L_carriesOut_102 rfl ?_
          refine g_getR d_L_carriesOut_103 fl_L_9 hc rfl ?_
          refine g_iconst d_L_carriesOut_106 ?_
          refine g_iconst d_L_carriesOut_107 ?_
          refine g_aload_n d_L_carriesOut_108 rfl ?_
          refine g_getR d_L_carriesOut_109 fl_L_9 hc rfl ?_
          refine g_iconst d_L_carriesOut_112 ?_
          refine g_ild d_L_carriesOut_113 hh il_2_10.1 il_2_10.2 ?_
          refine g_bipush d_L_carriesOut_114 ?_
          refine g_isub d_L_carriesOut_116 ?_
          refine g_mmax d_L_carriesOut_117 ml_L_57 (Nat.le_of_ble_eq_true rfl) ?_
          refine g_ist d_L_carriesOut_120 hh il_2_10.1 il_2_10.2 ?_
          refine g_iload_n d_L_carriesOut_121 rfl ?_
          refine g_iconst d_L_carriesOut_122 ?_
          refine s_icmp_ne d_L_carriesOut_123 (fun u21 => ?_) (fun u21 => ?_)
          · refine g_iload_n d_L_carriesOut_145 rfl ?_
            refine g_bipush d_L_carriesOut_146 ?_
            refine s_icmp_eq d_L_carriesOut_148 (fun u22 => ?_) (fun u22 => ?_)
            · refine g_iconst d_L_carriesOut_156 ?_
              refine g_zreturn d_L_carriesOut_157 rfl ?_ rfl
              rfl
            · refine g_aload_n d_L_carriesOut_151 rfl ?_
              refine g_iload_n d_L_carriesOut_152 rfl ?_
              refine g_callV1V d_L_carriesOut_153 ml_L_65 vk_L_drive hc ⟨_, rfl, rfl⟩ rfl (Nat.le_of_ble_eq_true rfl) (w_L_drive (X := X) (d := d) hc hg hh _ _) (fun q23 => ?_)
              refine g_iconst d_L_carriesOut_156 ?_
              refine g_zreturn d_L_carriesOut_157 rfl ?_ rfl
              rfl
          · refine g_aload_n d_L_carriesOut_126 rfl ?_
            refine g_getR d_L_carriesOut_127 fl_L_9 hc rfl ?_
            refine g_iconst d_L_carriesOut_130 ?_
            refine g_bipush d_L_carriesOut_131 ?_
            refine g_aload_n d_L_carriesOut_133 rfl ?_
            refine g_getR d_L_carriesOut_134 fl_L_9 hc rfl ?_
            refine g_iconst d_L_carriesOut_137 ?_
            refine g_ild d_L_carriesOut_138 hh il_3_10.1 il_3_10.2 ?_
            refine g_iconst d_L_carriesOut_139 ?_
            refine g_iadd d_L_carriesOut_140 ?_
            refine g_mmin d_L_carriesOut_141 ml_L_62 (Nat.le_of_ble_eq_true rfl) ?_
            refine g_ist d_L_carriesOut_144 hh il_3_10.1 il_3_10.2 ?_
            refine g_iload_n d_L_carriesOut_145 rfl ?_
            refine g_bipush d_L_carriesOut_146 ?_
            refine s_icmp_eq d_L_carriesOut_148 (fun u26 => ?_) (fun u26 => ?_)
            · refine g_iconst d_L_carriesOut_156 ?_
              refine g_zreturn d_L_carriesOut_157 rfl ?_ rfl
              rfl
            · refine g_aload_n d_L_carriesOut_151 rfl ?_
              refine g_iload_n d_L_carriesOut_152 rfl ?_
              refine g_callV1V d_L_carriesOut_153 ml_L_65 vk_L_drive hc ⟨_, rfl, rfl⟩ rfl (Nat.le_of_ble_eq_true rfl) (w_L_drive (X := X) (d := d) hc hg hh _ _) (fun q27 => ?_)
              refine g_iconst d_L_carriesOut_156 ?_
              refine g_zreturn d_L_carriesOut_157 rfl ?_ rfl
              rfl
      · refine g_aload_n d_L_carriesOut_71 rfl ?_
        refine g_getR d_L_carriesOut_72 fl_L_9 hc rfl ?_
        refine g_iconst d_L_carriesOut_75 ?_
        refine g_iconst d_L_carriesOut_76 ?_
        refine g_aload_n d_L_carriesOut_77 rfl ?_
        refine g_getR d_L_carriesOut_78 fl_L_9 hc rfl ?_
        refine g_iconst d_L_carriesOut_81 ?_
        refine g_ild d_L_carriesOut_82 hh il_1_10.1 il_1_10.2 ?_
        refine g_bipush d_L_carriesOut_83 ?_
        refine g_aload_n d_L_carriesOut_85 rfl ?_
        refine g_getR d_L_carriesOut_86 fl_L_9 hc rfl ?_
        refine g_iconst d_L_carriesOut_89 ?_
        refine g_ild d_L_carriesOut_90 hh il_5_10.1 il_5_10.2 ?_
        refine g_imul d_L_carriesOut_91 ?_
        refine g_isub d_L_carriesOut_92 ?_
        refine g_mmax d_L_carriesOut_93 ml_L_57 (Nat.le_of_ble_eq_true rfl) ?_
        refine g_ist d_L_carriesOut_96 hh il_1_10.1 il_1_10.2 ?_
        refine g_iload_n d_L_carriesOut_97 rfl ?_
        refine g_iconst d_L_carriesOut_98 ?_
        refine s_icmp_ne d_L_carriesOut_99 (fun u30 => ?_) (fun u30 => ?_)
        · refine g_iload_n d_L_carriesOut_121 rfl ?_
          refine g_iconst d_L_carriesOut_122 ?_
          refine s_icmp_ne d_L_carriesOut_123 (fun u31 => ?_) (fun u31 => ?_)
          · refine g_iload_n d_L_carriesOut_145 rfl ?_
            refine g_bipush d_L_carriesOut_146 ?_
            refine s_icmp_eq d_L_carriesOut_148 (fun u32 => ?_) (fun u32 => ?_)
            · refine g_iconst d_L_carriesOut_156 ?_
              refine g_zreturn d_L_carriesOut_157 rfl ?_ rfl
              rfl
            · refine g_aload_n d_L_carriesOut_151 rfl ?_
              refine g_iload_n d_L_carriesOut_152 rfl ?_
              refine g_callV1V d_L_carriesOut_153 ml_L_65 vk_L_drive hc ⟨_, rfl, rfl⟩ rfl (Nat.le_of_ble_eq_true rfl) (w_L_drive (X := X) (d := d) hc hg hh _ _) (fun q33 => ?_)
              refine g_iconst d_L_carriesOut_156 ?_
              refine g_zreturn d_L_carriesOut_157 rfl ?_ rfl
              rfl
          · refine g_aload_n d_L_carriesOut_126 rfl ?_
            refine g_getR d_L_carriesOut_127 fl_L_9 hc rfl ?_
            refine g_iconst d_L_carriesOut_130 ?_
            refine g_bipush d_L_carriesOut_131 ?_
            refine g_aload_n d_L_carriesOut_133 rfl ?_
            refine g_getR d_L_carriesOut_134 fl_L_9 hc rfl ?_
            refine g_iconst d_L_carriesOut_137 ?_
            refine g_ild d_L_carriesOut_138 hh il_3_10.1 il_3_10.2 ?_
            refine g_iconst d_L_carriesOut_139 ?_
            refine g_iadd d_L_carriesOut_140 ?_
            refine g_mmin d_L_carriesOut_141 ml_L_62 (Nat.le_of_ble_eq_true rfl) ?_
            refine g_ist d_L_carriesOut_144 hh il_3_10.1 il_3_10.2 ?_
            refine g_iload_n d_L_carriesOut_145 rfl ?_
            refine g_bipush d_L_carriesOut_146 ?_
            refine s_icmp_eq d_L_carriesOut_148 (fun u36 => ?_) (fun u36 => ?_)
            · refine g_iconst d_L_carriesOut_156 ?_
              refine g_zreturn d_L_carriesOut_157 rfl ?_ rfl
              rfl
            · refine g_aload_n d_L_carriesOut_151 rfl ?_
              refine g_iload_n d_L_carriesOut_152 rfl ?_
              refine g_callV1V d_L_carriesOut_153 ml_L_65 vk_L_drive hc ⟨_, rfl, rfl⟩ rfl (Nat.le_of_ble_eq_true rfl) (w_L_drive (X := X) (d := d) hc hg hh _ _) (fun q37 => ?_)
              refine g_iconst d_L_carriesOut_156 ?_
              refine g_zreturn d_L_carriesOut_157 rfl ?_ rfl
              rfl
        · refine g_aload_n d_L_carriesOut_102 rfl ?_
          refine g_getR d_L_carriesOut_103 fl_L_9 hc rfl ?_
          refine g_iconst d_L_carriesOut_106 ?_
          refine g_iconst d_L_carriesOut_107 ?_
          refine g_aload_n d_L_carriesOut_108 rfl ?_
          refine g_getR d_L_carriesOut_109 fl_L_9 hc rfl ?_
          refine g_iconst d_L_carriesOut_112 ?_
          refine g_ild d_L_carriesOut_113 hh il_2_10.1 il_2_10.2 ?_
          refine g_bipush d_L_carriesOut_114 ?_
          refine g_isub d_L_carriesOut_116 ?_
          refine g_mmax d_L_carriesOut_117 ml_L_57 (Nat.le_of_ble_eq_true rfl) ?_
          refine g_ist d_L_carriesOut_120 hh il_2_10.1 il_2_10.2 ?_
          refine g_iload_n d_L_carriesOut_121 rfl ?_
          refine g_iconst d_L_carriesOut_122 ?_
          refine s_icmp_ne d_L_carriesOut_123 (fun u40 => ?_) (fun u40 => ?_)
          · refine g_iload_n d_L_carriesOut_145 rfl ?_
            refine g_bipush d_L_carriesOut_146 ?_
            refine s_icmp_eq d_L_carriesOut_148 (fun u41 => ?_) (fun u41 => ?_)
            · refine g_iconst d_L_carriesOut_156 ?_
              refine g_zreturn d_L_carriesOut_157 rfl ?_ rfl
              rfl
            · refine g_aload_n d_L_carriesOut_151 rfl ?_
              refine g_iload_n d_L_carriesOut_152 rfl ?_
              refine g_callV1V d_L_carriesOut_153 ml_L_65 vk_L_drive hc ⟨_, rfl, rfl⟩ rfl (Nat.le_of_ble_eq_true rfl) (w_L_drive (X := X) (d := d) hc hg hh _ _) (fun q42 => ?_)
              refine g_iconst d_L_carriesOut_156 ?_
              refine g_zreturn d_L_carriesOut_157 rfl ?_ rfl
              rfl
          · refine g_aload_n d_L_carriesOut_126 rfl ?_
            refine g_getR d_L_carriesOut_127 fl_L_9 hc rfl ?_
            refine g_iconst d_L_carriesOut_130 ?_
            refine g_bipush d_L_carriesOut_131 ?_
            refine g_aload_n d_L_carriesOut_133 rfl ?_
            refine g_getR d_L_carriesOut_134 fl_L_9 hc rfl ?_
            refine g_iconst d_L_carriesOut_137 ?_
            refine g_ild d_L_carriesOut_138 hh il_3_10.1 il_3_10.2 ?_
            refine g_iconst d_L_carriesOut_139 ?_
            refine g_iadd d_L_carriesOut_140 ?_
            refine g_mmin d_L_carriesOut_141 ml_L_62 (Nat.le_of_ble_eq_true rfl) ?_
            refine g_ist d_L_carriesOut_144 hh il_3_10.1 il_3_10.2 ?_
            refine g_iload_n d_L_carriesOut_145 rfl ?_
            refine g_bipush d_L_carriesOut_146 ?_
            refine s_icmp_eq d_L_carriesOut_148 (fun u45 => ?_) (fun u45 => ?_)
            · refine g_iconst d_L_carriesOut_156 ?_
              refine g_zreturn d_L_carriesOut_157 rfl ?_ rfl
              rfl
            · refine g_aload_n d_L_carriesOut_151 rfl ?_
              refine g_iload_n d_L_carriesOut_152 rfl ?_
              refine g_callV1V d_L_carriesOut_153 ml_L_65 vk_L_drive hc ⟨_, rfl, rfl⟩ rfl (Nat.le_of_ble_eq_true rfl) (w_L_drive (X := X) (d := d) hc hg hh _ _) (fun q46 => ?_)
              refine g_iconst d_L_carriesOut_156 ?_
              refine g_zreturn d_L_carriesOut_157 rfl ?_ rfl
              rfl
    · refine g_iconst d_L_carriesOut_24 ?_
      refine g_zreturn d_L_carriesOut_25 rfl ?_ rfl
      rfl
end
