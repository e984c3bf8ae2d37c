section
-- ===== PART A: goes FIRST, ahead of the names: the tables' words, and 'selects' of the private methods out of them =====
/-- a private method of a class that the tables say can be made, by its rows of tables_1 -/
def lw_okq (q : MethodName × Nat) : Prop := (q.1.cls ≠ "java/lang/invoke/MethodHandle" ∧ q.1.cls ≠ "java/lang/invoke/VarHandle") ∧ Cond.instantiable q.1.cls q.2 ∈ tables_1 ∧ Cond.privateMethod q.1 ∈ tables_1 ∧ Cond.instanceMethod q.1 ∈ tables_1
theorem lw_p0 : lw_okq (⟨"GlassesOfRue$Tape", "next", "()V"⟩, 9) := ⟨⟨by decide +kernel, by decide +kernel⟩, List.mem_of_getElem? (i := 28) (by decide +kernel), List.mem_of_getElem? (i := 239) (by decide +kernel), List.mem_of_getElem? (i := 240) (by decide +kernel)⟩
theorem lw_p1 : lw_okq (⟨"GlassesOfRue$Tape", "isDigit", "(I)Z"⟩, 9) := ⟨⟨by decide +kernel, by decide +kernel⟩, List.mem_of_getElem? (i := 28) (by decide +kernel), List.mem_of_getElem? (i := 243) (by decide +kernel), List.mem_of_getElem? (i := 244) (by decide +kernel)⟩
theorem lw_p2 : lw_okq (⟨"GlassesOfRue$Tape", "nextNumber", "()V"⟩, 9) := ⟨⟨by decide +kernel, by decide +kernel⟩, List.mem_of_getElem? (i := 28) (by decide +kernel), List.mem_of_getElem? (i := 247) (by decide +kernel), List.mem_of_getElem? (i := 248) (by decide +kernel)⟩
theorem lw_p3 : lw_okq (⟨"GlassesOfRue$Tape", "isLetter", "(I)Z"⟩, 9) := ⟨⟨by decide +kernel, by decide +kernel⟩, List.mem_of_getElem? (i := 28) (by decide +kernel), List.mem_of_getElem? (i := 251) (by decide +kernel), List.mem_of_getElem? (i := 252) (by decide +kernel)⟩
theorem lw_p4 : lw_okq (⟨"GlassesOfRue$Tape", "nextWord", "()V"⟩, 9) := ⟨⟨by decide +kernel, by decide +kernel⟩, List.mem_of_getElem? (i := 28) (by decide +kernel), List.mem_of_getElem? (i := 255) (by decide +kernel), List.mem_of_getElem? (i := 256) (by decide +kernel)⟩
theorem lw_p5 : lw_okq (⟨"GlassesOfRue$Tape", "wordNumber", "(II)I"⟩, 9) := ⟨⟨by decide +kernel, by decide +kernel⟩, List.mem_of_getElem? (i := 28) (by decide +kernel), List.mem_of_getElem? (i := 259) (by decide +kernel), List.mem_of_getElem? (i := 260) (by decide +kernel)⟩
theorem lw_p6 : lw_okq (⟨"GlassesOfRue$Tape", "readEither", "(I)Z"⟩, 9) := ⟨⟨by decide +kernel, by decide +kernel⟩, List.mem_of_getElem? (i := 28) (by decide +kernel), List.mem_of_getElem? (i := 326) (by decide +kernel), List.mem_of_getElem? (i := 327) (by decide +kernel)⟩
theorem lw_p7 : lw_okq (⟨"GlassesOfRue$Tape", "readBoth", "(I)Z"⟩, 9) := ⟨⟨by decide +kernel, by decide +kernel⟩, List.mem_of_getElem? (i := 28) (by decide +kernel), List.mem_of_getElem? (i := 330) (by decide +kernel), List.mem_of_getElem? (i := 331) (by decide +kernel)⟩
theorem lw_p8 : lw_okq (⟨"GlassesOfRue$Tape", "readDenied", "(I)Z"⟩, 9) := ⟨⟨by decide +kernel, by decide +kernel⟩, List.mem_of_getElem? (i := 28) (by decide +kernel), List.mem_of_getElem? (i := 334) (by decide +kernel), List.mem_of_getElem? (i := 335) (by decide +kernel)⟩
theorem lw_p9 : lw_okq (⟨"GlassesOfRue$Tape", "emit", "(I)V"⟩, 9) := ⟨⟨by decide +kernel, by decide +kernel⟩, List.mem_of_getElem? (i := 28) (by decide +kernel), List.mem_of_getElem? (i := 338) (by decide +kernel), List.mem_of_getElem? (i := 339) (by decide +kernel)⟩
theorem lw_p10 : lw_okq (⟨"GlassesOfRue$Tape", "readSum", "(I)Z"⟩, 9) := ⟨⟨by decide +kernel, by decide +kernel⟩, List.mem_of_getElem? (i := 28) (by decide +kernel), List.mem_of_getElem? (i := 342) (by decide +kernel), List.mem_of_getElem? (i := 343) (by decide +kernel)⟩
theorem lw_p11 : lw_okq (⟨"GlassesOfRue$Tape", "readTerm", "(I)Z"⟩, 9) := ⟨⟨by decide +kernel, by decide +kernel⟩, List.mem_of_getElem? (i := 28) (by decide +kernel), List.mem_of_getElem? (i := 346) (by decide +kernel), List.mem_of_getElem? (i := 347) (by decide +kernel)⟩
theorem lw_p12 : lw_okq (⟨"GlassesOfRue$Tape", "readOne", "(I)Z"⟩, 9) := ⟨⟨by decide +kernel, by decide +kernel⟩, List.mem_of_getElem? (i := 28) (by decide +kernel), List.mem_of_getElem? (i := 350) (by decide +kernel), List.mem_of_getElem? (i := 351) (by decide +kernel)⟩
theorem lw_p13 : lw_okq (⟨"GlassesOfRue", "held", "(II)I"⟩, 9) := ⟨⟨by decide +kernel, by decide +kernel⟩, List.mem_of_getElem? (i := 18) (by decide +kernel), List.mem_of_getElem? (i := 391) (by decide +kernel), List.mem_of_getElem? (i := 392) (by decide +kernel)⟩
theorem lw_p14 : lw_okq (⟨"GlassesOfRue$World", "ruleTells", "(II)I"⟩, 11) := ⟨⟨by decide +kernel, by decide +kernel⟩, List.mem_of_getElem? (i := 95) (by decide +kernel), List.mem_of_getElem? (i := 425) (by decide +kernel), List.mem_of_getElem? (i := 426) (by decide +kernel)⟩
theorem lw_p15 : lw_okq (⟨"GlassesOfRue", "isThree", "(I)Z"⟩, 9) := ⟨⟨by decide +kernel, by decide +kernel⟩, List.mem_of_getElem? (i := 18) (by decide +kernel), List.mem_of_getElem? (i := 525) (by decide +kernel), List.mem_of_getElem? (i := 526) (by decide +kernel)⟩
def lw_privs_1 : List (MethodName × Nat) := [(⟨"GlassesOfRue$Tape", "next", "()V"⟩, 9), (⟨"GlassesOfRue$Tape", "isDigit", "(I)Z"⟩, 9), (⟨"GlassesOfRue$Tape", "nextNumber", "()V"⟩, 9), (⟨"GlassesOfRue$Tape", "isLetter", "(I)Z"⟩, 9), (⟨"GlassesOfRue$Tape", "nextWord", "()V"⟩, 9), (⟨"GlassesOfRue$Tape", "wordNumber", "(II)I"⟩, 9), (⟨"GlassesOfRue$Tape", "readEither", "(I)Z"⟩, 9), (⟨"GlassesOfRue$Tape", "readBoth", "(I)Z"⟩, 9), (⟨"GlassesOfRue$Tape", "readDenied", "(I)Z"⟩, 9), (⟨"GlassesOfRue$Tape", "emit", "(I)V"⟩, 9), (⟨"GlassesOfRue$Tape", "readSum", "(I)Z"⟩, 9), (⟨"GlassesOfRue$Tape", "readTerm", "(I)Z"⟩, 9), (⟨"GlassesOfRue$Tape", "readOne", "(I)Z"⟩, 9), (⟨"GlassesOfRue", "held", "(II)I"⟩, 9), (⟨"GlassesOfRue$World", "ruleTells", "(II)I"⟩, 11), (⟨"GlassesOfRue", "isThree", "(I)Z"⟩, 9)]
theorem lw_r1 : ∀ q ∈ lw_privs_1, lw_okq q := List.forall_mem_cons.mpr ⟨lw_p0, List.forall_mem_cons.mpr ⟨lw_p1, List.forall_mem_cons.mpr ⟨lw_p2, List.forall_mem_cons.mpr ⟨lw_p3, List.forall_mem_cons.mpr ⟨lw_p4, List.forall_mem_cons.mpr ⟨lw_p5, List.forall_mem_cons.mpr ⟨lw_p6, List.forall_mem_cons.mpr ⟨lw_p7, List.forall_mem_cons.mpr ⟨lw_p8, List.forall_mem_cons.mpr ⟨lw_p9, List.forall_mem_cons.mpr ⟨lw_p10, List.forall_mem_cons.mpr ⟨lw_p11, List.forall_mem_cons.mpr ⟨lw_p12, List.forall_mem_cons.mpr ⟨lw_p13, List.forall_mem_cons.mpr ⟨lw_p14, List.forall_mem_cons.mpr ⟨lw_p15, fun _ h => absurd h List.not_mem_nil⟩⟩⟩⟩⟩⟩⟩⟩⟩⟩⟩⟩⟩⟩⟩⟩
theorem lw_p16 : lw_okq (⟨"GlassesOfRue", "timesOf", "(LGlassesOfRue$World;I)I"⟩, 9) := ⟨⟨by decide +kernel, by decide +kernel⟩, List.mem_of_getElem? (i := 18) (by decide +kernel), List.mem_of_getElem? (i := 530) (by decide +kernel), List.mem_of_getElem? (i := 531) (by decide +kernel)⟩
theorem lw_p17 : lw_okq (⟨"GlassesOfRue$Table", "passMinute", "(I)J"⟩, 7) := ⟨⟨by decide +kernel, by decide +kernel⟩, List.mem_of_getElem? (i := 66) (by decide +kernel), List.mem_of_getElem? (i := 546) (by decide +kernel), List.mem_of_getElem? (i := 547) (by decide +kernel)⟩
theorem lw_p18 : lw_okq (⟨"GlassesOfRue$Table", "turnSets", "(IIJ)V"⟩, 7) := ⟨⟨by decide +kernel, by decide +kernel⟩, List.mem_of_getElem? (i := 66) (by decide +kernel), List.mem_of_getElem? (i := 553) (by decide +kernel), List.mem_of_getElem? (i := 554) (by decide +kernel)⟩
theorem lw_p19 : lw_okq (⟨"GlassesOfRue$Table", "timesLaid", "()I"⟩, 7) := ⟨⟨by decide +kernel, by decide +kernel⟩, List.mem_of_getElem? (i := 66) (by decide +kernel), List.mem_of_getElem? (i := 578) (by decide +kernel), List.mem_of_getElem? (i := 579) (by decide +kernel)⟩
theorem lw_p20 : lw_okq (⟨"GlassesOfRue", "layGlasses", "(I)V"⟩, 9) := ⟨⟨by decide +kernel, by decide +kernel⟩, List.mem_of_getElem? (i := 18) (by decide +kernel), List.mem_of_getElem? (i := 592) (by decide +kernel), List.mem_of_getElem? (i := 593) (by decide +kernel)⟩
theorem lw_p21 : lw_okq (⟨"GlassesOfRue", "firstOtherwise", "(LGlassesOfRue$Sheet;III)I"⟩, 9) := ⟨⟨by decide +kernel, by decide +kernel⟩, List.mem_of_getElem? (i := 18) (by decide +kernel), List.mem_of_getElem? (i := 617) (by decide +kernel), List.mem_of_getElem? (i := 618) (by decide +kernel)⟩
theorem lw_p22 : lw_okq (⟨"GlassesOfRue", "choices", "(I)I"⟩, 9) := ⟨⟨by decide +kernel, by decide +kernel⟩, List.mem_of_getElem? (i := 18) (by decide +kernel), List.mem_of_getElem? (i := 625) (by decide +kernel), List.mem_of_getElem? (i := 626) (by decide +kernel)⟩
theorem lw_p23 : lw_okq (⟨"GlassesOfRue", "clogsBySeed", "(II)I"⟩, 9) := ⟨⟨by decide +kernel, by decide +kernel⟩, List.mem_of_getElem? (i := 18) (by decide +kernel), List.mem_of_getElem? (i := 648) (by decide +kernel), List.mem_of_getElem? (i := 649) (by decide +kernel)⟩
theorem lw_p24 : lw_okq (⟨"GlassesOfRueModel", "codes", "(I)V"⟩, 51) := ⟨⟨by decide +kernel, by decide +kernel⟩, List.mem_of_getElem? (i := 707) (by decide +kernel), List.mem_of_getElem? (i := 713) (by decide +kernel), List.mem_of_getElem? (i := 714) (by decide +kernel)⟩
theorem lw_p25 : lw_okq (⟨"GlassesOfRueModel", "isOf", "(II)Z"⟩, 51) := ⟨⟨by decide +kernel, by decide +kernel⟩, List.mem_of_getElem? (i := 707) (by decide +kernel), List.mem_of_getElem? (i := 876) (by decide +kernel), List.mem_of_getElem? (i := 877) (by decide +kernel)⟩
theorem lw_p26 : lw_okq (⟨"GlassesOfRueModel", "isOne", "(I)Z"⟩, 51) := ⟨⟨by decide +kernel, by decide +kernel⟩, List.mem_of_getElem? (i := 707) (by decide +kernel), List.mem_of_getElem? (i := 883) (by decide +kernel), List.mem_of_getElem? (i := 884) (by decide +kernel)⟩
theorem lw_p27 : lw_okq (⟨"GlassesOfRueModel", "get", "(II)I"⟩, 51) := ⟨⟨by decide +kernel, by decide +kernel⟩, List.mem_of_getElem? (i := 707) (by decide +kernel), List.mem_of_getElem? (i := 887) (by decide +kernel), List.mem_of_getElem? (i := 888) (by decide +kernel)⟩
theorem lw_p28 : lw_okq (⟨"GlassesOfRueModel", "runsOf", "(I)I"⟩, 51) := ⟨⟨by decide +kernel, by decide +kernel⟩, List.mem_of_getElem? (i := 707) (by decide +kernel), List.mem_of_getElem? (i := 899) (by decide +kernel), List.mem_of_getElem? (i := 900) (by decide +kernel)⟩
theorem lw_p29 : lw_okq (⟨"GlassesOfRueModel", "ruledFor", "(II)I"⟩, 51) := ⟨⟨by decide +kernel, by decide +kernel⟩, List.mem_of_getElem? (i := 707) (by decide +kernel), List.mem_of_getElem? (i := 903) (by decide +kernel), List.mem_of_getElem? (i := 904) (by decide +kernel)⟩
theorem lw_p30 : lw_okq (⟨"GlassesOfRueModel", "mostRue", "()I"⟩, 51) := ⟨⟨by decide +kernel, by decide +kernel⟩, List.mem_of_getElem? (i := 707) (by decide +kernel), List.mem_of_getElem? (i := 907) (by decide +kernel), List.mem_of_getElem? (i := 908) (by decide +kernel)⟩
theorem lw_p31 : lw_okq (⟨"GlassesOfRueModel", "ruled", "(I)I"⟩, 51) := ⟨⟨by decide +kernel, by decide +kernel⟩, List.mem_of_getElem? (i := 707) (by decide +kernel), List.mem_of_getElem? (i := 911) (by decide +kernel), List.mem_of_getElem? (i := 912) (by decide +kernel)⟩
def lw_privs_2 : List (MethodName × Nat) := [(⟨"GlassesOfRue", "timesOf", "(LGlassesOfRue$World;I)I"⟩, 9), (⟨"GlassesOfRue$Table", "passMinute", "(I)J"⟩, 7), (⟨"GlassesOfRue$Table", "turnSets", "(IIJ)V"⟩, 7), (⟨"GlassesOfRue$Table", "timesLaid", "()I"⟩, 7), (⟨"GlassesOfRue", "layGlasses", "(I)V"⟩, 9), (⟨"GlassesOfRue", "firstOtherwise", "(LGlassesOfRue$Sheet;III)I"⟩, 9), (⟨"GlassesOfRue", "choices", "(I)I"⟩, 9), (⟨"GlassesOfRue", "clogsBySeed", "(II)I"⟩, 9), (⟨"GlassesOfRueModel", "codes", "(I)V"⟩, 51), (⟨"GlassesOfRueModel", "isOf", "(II)Z"⟩, 51), (⟨"GlassesOfRueModel", "isOne", "(I)Z"⟩, 51), (⟨"GlassesOfRueModel", "get", "(II)I"⟩, 51), (⟨"GlassesOfRueModel", "runsOf", "(I)I"⟩, 51), (⟨"GlassesOfRueModel", "ruledFor", "(II)I"⟩, 51), (⟨"GlassesOfRueModel", "mostRue", "()I"⟩, 51), (⟨"GlassesOfRueModel", "ruled", "(I)I"⟩, 51)]
theorem lw_r2 : ∀ q ∈ lw_privs_2, lw_okq q := List.forall_mem_cons.mpr ⟨lw_p16, List.forall_mem_cons.mpr ⟨lw_p17, List.forall_mem_cons.mpr ⟨lw_p18, List.forall_mem_cons.mpr ⟨lw_p19, List.forall_mem_cons.mpr ⟨lw_p20, List.forall_mem_cons.mpr ⟨lw_p21, List.forall_mem_cons.mpr ⟨lw_p22, List.forall_mem_cons.mpr ⟨lw_p23, List.forall_mem_cons.mpr ⟨lw_p24, List.forall_mem_cons.mpr ⟨lw_p25, List.forall_mem_cons.mpr ⟨lw_p26, List.forall_mem_cons.mpr ⟨lw_p27, List.forall_mem_cons.mpr ⟨lw_p28, List.forall_mem_cons.mpr ⟨lw_p29, List.forall_mem_cons.mpr ⟨lw_p30, List.forall_mem_cons.mpr ⟨lw_p31, fun _ h => absurd h List.not_mem_nil⟩⟩⟩⟩⟩⟩⟩⟩⟩⟩⟩⟩⟩⟩⟩⟩
theorem lw_p32 : lw_okq (⟨"GlassesOfRueModel", "isClogged", "(I)Z"⟩, 51) := ⟨⟨by decide +kernel, by decide +kernel⟩, List.mem_of_getElem? (i := 707) (by decide +kernel), List.mem_of_getElem? (i := 921) (by decide +kernel), List.mem_of_getElem? (i := 922) (by decide +kernel)⟩
theorem lw_p33 : lw_okq (⟨"GlassesOfRueModel", "ruesOf", "(I)I"⟩, 51) := ⟨⟨by decide +kernel, by decide +kernel⟩, List.mem_of_getElem? (i := 707) (by decide +kernel), List.mem_of_getElem? (i := 925) (by decide +kernel), List.mem_of_getElem? (i := 926) (by decide +kernel)⟩
theorem lw_p34 : lw_okq (⟨"GlassesOfRueModel", "minutes", "(I)I"⟩, 51) := ⟨⟨by decide +kernel, by decide +kernel⟩, List.mem_of_getElem? (i := 707) (by decide +kernel), List.mem_of_getElem? (i := 929) (by decide +kernel), List.mem_of_getElem? (i := 930) (by decide +kernel)⟩
theorem lw_p35 : lw_okq (⟨"GlassesOfRueModel", "next", "()V"⟩, 51) := ⟨⟨by decide +kernel, by decide +kernel⟩, List.mem_of_getElem? (i := 707) (by decide +kernel), List.mem_of_getElem? (i := 941) (by decide +kernel), List.mem_of_getElem? (i := 942) (by decide +kernel)⟩
theorem lw_p36 : lw_okq (⟨"GlassesOfRueModel", "named", "()I"⟩, 51) := ⟨⟨by decide +kernel, by decide +kernel⟩, List.mem_of_getElem? (i := 707) (by decide +kernel), List.mem_of_getElem? (i := 948) (by decide +kernel), List.mem_of_getElem? (i := 949) (by decide +kernel)⟩
theorem lw_p37 : lw_okq (⟨"GlassesOfRueModel", "isKey", "()Z"⟩, 51) := ⟨⟨by decide +kernel, by decide +kernel⟩, List.mem_of_getElem? (i := 707) (by decide +kernel), List.mem_of_getElem? (i := 952) (by decide +kernel), List.mem_of_getElem? (i := 953) (by decide +kernel)⟩
theorem lw_p38 : lw_okq (⟨"GlassesOfRueModel", "part", "(II)Z"⟩, 51) := ⟨⟨by decide +kernel, by decide +kernel⟩, List.mem_of_getElem? (i := 707) (by decide +kernel), List.mem_of_getElem? (i := 963) (by decide +kernel), List.mem_of_getElem? (i := 964) (by decide +kernel)⟩
theorem lw_p39 : lw_okq (⟨"GlassesOfRueModel", "takes", "(I)Z"⟩, 51) := ⟨⟨by decide +kernel, by decide +kernel⟩, List.mem_of_getElem? (i := 707) (by decide +kernel), List.mem_of_getElem? (i := 967) (by decide +kernel), List.mem_of_getElem? (i := 968) (by decide +kernel)⟩
theorem lw_p40 : lw_okq (⟨"GlassesOfRueModel", "goesOn", "()Z"⟩, 51) := ⟨⟨by decide +kernel, by decide +kernel⟩, List.mem_of_getElem? (i := 707) (by decide +kernel), List.mem_of_getElem? (i := 971) (by decide +kernel), List.mem_of_getElem? (i := 972) (by decide +kernel)⟩
theorem lw_p41 : lw_okq (⟨"GlassesOfRueModel", "one", "(Z)Z"⟩, 51) := ⟨⟨by decide +kernel, by decide +kernel⟩, List.mem_of_getElem? (i := 707) (by decide +kernel), List.mem_of_getElem? (i := 975) (by decide +kernel), List.mem_of_getElem? (i := 976) (by decide +kernel)⟩
theorem lw_p42 : lw_okq (⟨"GlassesOfRueModel", "lays", "(I)V"⟩, 51) := ⟨⟨by decide +kernel, by decide +kernel⟩, List.mem_of_getElem? (i := 707) (by decide +kernel), List.mem_of_getElem? (i := 979) (by decide +kernel), List.mem_of_getElem? (i := 980) (by decide +kernel)⟩
theorem lw_p43 : lw_okq (⟨"GlassesOfRueModel", "push", "(I)V"⟩, 51) := ⟨⟨by decide +kernel, by decide +kernel⟩, List.mem_of_getElem? (i := 707) (by decide +kernel), List.mem_of_getElem? (i := 986) (by decide +kernel), List.mem_of_getElem? (i := 987) (by decide +kernel)⟩
theorem lw_p44 : lw_okq (⟨"GlassesOfRueModel", "closes", "()Z"⟩, 51) := ⟨⟨by decide +kernel, by decide +kernel⟩, List.mem_of_getElem? (i := 707) (by decide +kernel), List.mem_of_getElem? (i := 990) (by decide +kernel), List.mem_of_getElem? (i := 991) (by decide +kernel)⟩
theorem lw_p45 : lw_okq (⟨"GlassesOfRueModel", "signed", "()I"⟩, 51) := ⟨⟨by decide +kernel, by decide +kernel⟩, List.mem_of_getElem? (i := 707) (by decide +kernel), List.mem_of_getElem? (i := 994) (by decide +kernel), List.mem_of_getElem? (i := 995) (by decide +kernel)⟩
theorem lw_p46 : lw_okq (⟨"GlassesOfRueModel", "goes", "()V"⟩, 51) := ⟨⟨by decide +kernel, by decide +kernel⟩, List.mem_of_getElem? (i := 707) (by decide +kernel), List.mem_of_getElem? (i := 1008) (by decide +kernel), List.mem_of_getElem? (i := 1009) (by decide +kernel)⟩
theorem lw_p47 : lw_okq (⟨"GlassesOfRueModel", "allRue", "()I"⟩, 51) := ⟨⟨by decide +kernel, by decide +kernel⟩, List.mem_of_getElem? (i := 707) (by decide +kernel), List.mem_of_getElem? (i := 1012) (by decide +kernel), List.mem_of_getElem? (i := 1013) (by decide +kernel)⟩
def lw_privs_3 : List (MethodName × Nat) := [(⟨"GlassesOfRueModel", "isClogged", "(I)Z"⟩, 51), (⟨"GlassesOfRueModel", "ruesOf", "(I)I"⟩, 51), (⟨"GlassesOfRueModel", "minutes", "(I)I"⟩, 51), (⟨"GlassesOfRueModel", "next", "()V"⟩, 51), (⟨"GlassesOfRueModel", "named", "()I"⟩, 51), (⟨"GlassesOfRueModel", "isKey", "()Z"⟩, 51), (⟨"GlassesOfRueModel", "part", "(II)Z"⟩, 51), (⟨"GlassesOfRueModel", "takes", "(I)Z"⟩, 51), (⟨"GlassesOfRueModel", "goesOn", "()Z"⟩, 51), (⟨"GlassesOfRueModel", "one", "(Z)Z"⟩, 51), (⟨"GlassesOfRueModel", "lays", "(I)V"⟩, 51), (⟨"GlassesOfRueModel", "push", "(I)V"⟩, 51), (⟨"GlassesOfRueModel", "closes", "()Z"⟩, 51), (⟨"GlassesOfRueModel", "signed", "()I"⟩, 51), (⟨"GlassesOfRueModel", "goes", "()V"⟩, 51), (⟨"GlassesOfRueModel", "allRue", "()I"⟩, 51)]
theorem lw_r3 : ∀ q ∈ lw_privs_3, lw_okq q := List.forall_mem_cons.mpr ⟨lw_p32, List.forall_mem_cons.mpr ⟨lw_p33, List.forall_mem_cons.mpr ⟨lw_p34, List.forall_mem_cons.mpr ⟨lw_p35, List.forall_mem_cons.mpr ⟨lw_p36, List.forall_mem_cons.mpr ⟨lw_p37, List.forall_mem_cons.mpr ⟨lw_p38, List.forall_mem_cons.mpr ⟨lw_p39, List.forall_mem_cons.mpr ⟨lw_p40, List.forall_mem_cons.mpr ⟨lw_p41, List.forall_mem_cons.mpr ⟨lw_p42, List.forall_mem_cons.mpr ⟨lw_p43, List.forall_mem_cons.mpr ⟨lw_p44, List.forall_mem_cons.mpr ⟨lw_p45, List.forall_mem_cons.mpr ⟨lw_p46, List.forall_mem_cons.mpr ⟨lw_p47, fun _ h => absurd h List.not_mem_nil⟩⟩⟩⟩⟩⟩⟩⟩⟩⟩⟩⟩⟩⟩⟩⟩
theorem lw_p48 : lw_okq (⟨"GlassesOfRueModel", "drawsOff", "(III)V"⟩, 51) := ⟨⟨by decide +kernel, by decide +kernel⟩, List.mem_of_getElem? (i := 707) (by decide +kernel), List.mem_of_getElem? (i := 1020) (by decide +kernel), List.mem_of_getElem? (i := 1021) (by decide +kernel)⟩
theorem lw_p49 : lw_okq (⟨"GlassesOfRueModel", "keeps", "()V"⟩, 51) := ⟨⟨by decide +kernel, by decide +kernel⟩, List.mem_of_getElem? (i := 707) (by decide +kernel), List.mem_of_getElem? (i := 1028) (by decide +kernel), List.mem_of_getElem? (i := 1029) (by decide +kernel)⟩
theorem lw_p50 : lw_okq (⟨"GlassesOfRueModel", "restores", "()V"⟩, 51) := ⟨⟨by decide +kernel, by decide +kernel⟩, List.mem_of_getElem? (i := 707) (by decide +kernel), List.mem_of_getElem? (i := 1032) (by decide +kernel), List.mem_of_getElem? (i := 1033) (by decide +kernel)⟩
theorem lw_p51 : lw_okq (⟨"GlassesOfRueModel", "longest", "()I"⟩, 51) := ⟨⟨by decide +kernel, by decide +kernel⟩, List.mem_of_getElem? (i := 707) (by decide +kernel), List.mem_of_getElem? (i := 1040) (by decide +kernel), List.mem_of_getElem? (i := 1041) (by decide +kernel)⟩
theorem lw_p52 : lw_okq (⟨"GlassesOfRueModel", "clogged", "()I"⟩, 51) := ⟨⟨by decide +kernel, by decide +kernel⟩, List.mem_of_getElem? (i := 707) (by decide +kernel), List.mem_of_getElem? (i := 1044) (by decide +kernel), List.mem_of_getElem? (i := 1045) (by decide +kernel)⟩
theorem lw_p53 : lw_okq (⟨"GlassesOfRueModel", "areThree", "(I)Z"⟩, 51) := ⟨⟨by decide +kernel, by decide +kernel⟩, List.mem_of_getElem? (i := 707) (by decide +kernel), List.mem_of_getElem? (i := 1052) (by decide +kernel), List.mem_of_getElem? (i := 1053) (by decide +kernel)⟩
theorem lw_p54 : lw_okq (⟨"GlassesOfRueModel", "pours", "(I)V"⟩, 51) := ⟨⟨by decide +kernel, by decide +kernel⟩, List.mem_of_getElem? (i := 707) (by decide +kernel), List.mem_of_getElem? (i := 1057) (by decide +kernel), List.mem_of_getElem? (i := 1058) (by decide +kernel)⟩
theorem lw_p55 : lw_okq (⟨"GlassesOfRueModel", "toldTimes", "()J"⟩, 51) := ⟨⟨by decide +kernel, by decide +kernel⟩, List.mem_of_getElem? (i := 707) (by decide +kernel), List.mem_of_getElem? (i := 1061) (by decide +kernel), List.mem_of_getElem? (i := 1062) (by decide +kernel)⟩
theorem lw_p56 : lw_okq (⟨"GlassesOfRueModel", "turned", "(II)V"⟩, 51) := ⟨⟨by decide +kernel, by decide +kernel⟩, List.mem_of_getElem? (i := 707) (by decide +kernel), List.mem_of_getElem? (i := 1065) (by decide +kernel), List.mem_of_getElem? (i := 1066) (by decide +kernel)⟩
theorem lw_p57 : lw_okq (⟨"GlassesOfRueModel", "nextTold", "(I)I"⟩, 51) := ⟨⟨by decide +kernel, by decide +kernel⟩, List.mem_of_getElem? (i := 707) (by decide +kernel), List.mem_of_getElem? (i := 1076) (by decide +kernel), List.mem_of_getElem? (i := 1077) (by decide +kernel)⟩
theorem lw_p58 : lw_okq (⟨"GlassesOfRueModel", "counts", "(I)V"⟩, 51) := ⟨⟨by decide +kernel, by decide +kernel⟩, List.mem_of_getElem? (i := 707) (by decide +kernel), List.mem_of_getElem? (i := 1080) (by decide +kernel), List.mem_of_getElem? (i := 1081) (by decide +kernel)⟩
theorem lw_p59 : lw_okq (⟨"GlassesOfRueModel", "isWay", "(III)Z"⟩, 51) := ⟨⟨by decide +kernel, by decide +kernel⟩, List.mem_of_getElem? (i := 707) (by decide +kernel), List.mem_of_getElem? (i := 1084) (by decide +kernel), List.mem_of_getElem? (i := 1085) (by decide +kernel)⟩
theorem lw_p60 : lw_okq (⟨"GlassesOfRueModel", "byFirst", "(IIII)I"⟩, 51) := ⟨⟨by decide +kernel, by decide +kernel⟩, List.mem_of_getElem? (i := 707) (by decide +kernel), List.mem_of_getElem? (i := 1088) (by decide +kernel), List.mem_of_getElem? (i := 1089) (by decide +kernel)⟩
theorem lw_p61 : lw_okq (⟨"GlassesOfRueModel", "wayTo", "(I)I"⟩, 51) := ⟨⟨by decide +kernel, by decide +kernel⟩, List.mem_of_getElem? (i := 707) (by decide +kernel), List.mem_of_getElem? (i := 1095) (by decide +kernel), List.mem_of_getElem? (i := 1096) (by decide +kernel)⟩
theorem lw_p62 : lw_okq (⟨"GlassesOfRueModel", "drawFor", "(II)I"⟩, 51) := ⟨⟨by decide +kernel, by decide +kernel⟩, List.mem_of_getElem? (i := 707) (by decide +kernel), List.mem_of_getElem? (i := 1107) (by decide +kernel), List.mem_of_getElem? (i := 1108) (by decide +kernel)⟩
theorem lw_p63 : lw_okq (⟨"GlassesOfRueModel", "isTold", "(II)Z"⟩, 51) := ⟨⟨by decide +kernel, by decide +kernel⟩, List.mem_of_getElem? (i := 707) (by decide +kernel), List.mem_of_getElem? (i := 1111) (by decide +kernel), List.mem_of_getElem? (i := 1112) (by decide +kernel)⟩
def lw_privs_4 : List (MethodName × Nat) := [(⟨"GlassesOfRueModel", "drawsOff", "(III)V"⟩, 51), (⟨"GlassesOfRueModel", "keeps", "()V"⟩, 51), (⟨"GlassesOfRueModel", "restores", "()V"⟩, 51), (⟨"GlassesOfRueModel", "longest", "()I"⟩, 51), (⟨"GlassesOfRueModel", "clogged", "()I"⟩, 51), (⟨"GlassesOfRueModel", "areThree", "(I)Z"⟩, 51), (⟨"GlassesOfRueModel", "pours", "(I)V"⟩, 51), (⟨"GlassesOfRueModel", "toldTimes", "()J"⟩, 51), (⟨"GlassesOfRueModel", "turned", "(II)V"⟩, 51), (⟨"GlassesOfRueModel", "nextTold", "(I)I"⟩, 51), (⟨"GlassesOfRueModel", "counts", "(I)V"⟩, 51), (⟨"GlassesOfRueModel", "isWay", "(III)Z"⟩, 51), (⟨"GlassesOfRueModel", "byFirst", "(IIII)I"⟩, 51), (⟨"GlassesOfRueModel", "wayTo", "(I)I"⟩, 51), (⟨"GlassesOfRueModel", "drawFor", "(II)I"⟩, 51), (⟨"GlassesOfRueModel", "isTold", "(II)Z"⟩, 51)]
theorem lw_r4 : ∀ q ∈ lw_privs_4, lw_okq q := List.forall_mem_cons.mpr ⟨lw_p48, List.forall_mem_cons.mpr ⟨lw_p49, List.forall_mem_cons.mpr ⟨lw_p50, List.forall_mem_cons.mpr ⟨lw_p51, List.forall_mem_cons.mpr ⟨lw_p52, List.forall_mem_cons.mpr ⟨lw_p53, List.forall_mem_cons.mpr ⟨lw_p54, List.forall_mem_cons.mpr ⟨lw_p55, List.forall_mem_cons.mpr ⟨lw_p56, List.forall_mem_cons.mpr ⟨lw_p57, List.forall_mem_cons.mpr ⟨lw_p58, List.forall_mem_cons.mpr ⟨lw_p59, List.forall_mem_cons.mpr ⟨lw_p60, List.forall_mem_cons.mpr ⟨lw_p61, List.forall_mem_cons.mpr ⟨lw_p62, List.forall_mem_cons.mpr ⟨lw_p63, fun _ h => absurd h List.not_mem_nil⟩⟩⟩⟩⟩⟩⟩⟩⟩⟩⟩⟩⟩⟩⟩⟩
theorem lw_p64 : lw_okq (⟨"GlassesOfRueModel", "daysFor", "(II)I"⟩, 51) := ⟨⟨by decide +kernel, by decide +kernel⟩, List.mem_of_getElem? (i := 707) (by decide +kernel), List.mem_of_getElem? (i := 1115) (by decide +kernel), List.mem_of_getElem? (i := 1116) (by decide +kernel)⟩
theorem lw_p65 : lw_okq (⟨"GlassesOfRueModel", "wrong", "(II)I"⟩, 51) := ⟨⟨by decide +kernel, by decide +kernel⟩, List.mem_of_getElem? (i := 707) (by decide +kernel), List.mem_of_getElem? (i := 1126) (by decide +kernel), List.mem_of_getElem? (i := 1127) (by decide +kernel)⟩
theorem lw_p66 : lw_okq (⟨"GlassesOfRueModel", "kindsSo", "(II)I"⟩, 51) := ⟨⟨by decide +kernel, by decide +kernel⟩, List.mem_of_getElem? (i := 707) (by decide +kernel), List.mem_of_getElem? (i := 1130) (by decide +kernel), List.mem_of_getElem? (i := 1131) (by decide +kernel)⟩
theorem lw_p67 : lw_okq (⟨"GlassesOfRueModel", "isSo", "(II)Z"⟩, 51) := ⟨⟨by decide +kernel, by decide +kernel⟩, List.mem_of_getElem? (i := 707) (by decide +kernel), List.mem_of_getElem? (i := 1134) (by decide +kernel), List.mem_of_getElem? (i := 1135) (by decide +kernel)⟩
theorem lw_p68 : lw_okq (⟨"GlassesOfRueModel", "numbersSo", "(II)I"⟩, 51) := ⟨⟨by decide +kernel, by decide +kernel⟩, List.mem_of_getElem? (i := 707) (by decide +kernel), List.mem_of_getElem? (i := 1138) (by decide +kernel), List.mem_of_getElem? (i := 1139) (by decide +kernel)⟩
theorem lw_p69 : lw_okq (⟨"GlassesOfRueModel", "wetsSo", "(II)I"⟩, 51) := ⟨⟨by decide +kernel, by decide +kernel⟩, List.mem_of_getElem? (i := 707) (by decide +kernel), List.mem_of_getElem? (i := 1142) (by decide +kernel), List.mem_of_getElem? (i := 1143) (by decide +kernel)⟩
theorem lw_p70 : lw_okq (⟨"GlassesOfRueModel", "ruesSo", "(III)I"⟩, 51) := ⟨⟨by decide +kernel, by decide +kernel⟩, List.mem_of_getElem? (i := 707) (by decide +kernel), List.mem_of_getElem? (i := 1146) (by decide +kernel), List.mem_of_getElem? (i := 1147) (by decide +kernel)⟩
theorem lw_p71 : lw_okq (⟨"GlassesOfRueModel", "textsSo", "(II)I"⟩, 51) := ⟨⟨by decide +kernel, by decide +kernel⟩, List.mem_of_getElem? (i := 707) (by decide +kernel), List.mem_of_getElem? (i := 1150) (by decide +kernel), List.mem_of_getElem? (i := 1151) (by decide +kernel)⟩
theorem lw_p72 : lw_okq (⟨"GlassesOfRueModel", "peopleSo", "(I)I"⟩, 51) := ⟨⟨by decide +kernel, by decide +kernel⟩, List.mem_of_getElem? (i := 707) (by decide +kernel), List.mem_of_getElem? (i := 1154) (by decide +kernel), List.mem_of_getElem? (i := 1155) (by decide +kernel)⟩
theorem lw_p73 : lw_okq (⟨"GlassesOfRueModel", "byLot", "(II)I"⟩, 51) := ⟨⟨by decide +kernel, by decide +kernel⟩, List.mem_of_getElem? (i := 707) (by decide +kernel), List.mem_of_getElem? (i := 1170) (by decide +kernel), List.mem_of_getElem? (i := 1171) (by decide +kernel)⟩
def lw_privs_5 : List (MethodName × Nat) := [(⟨"GlassesOfRueModel", "daysFor", "(II)I"⟩, 51), (⟨"GlassesOfRueModel", "wrong", "(II)I"⟩, 51), (⟨"GlassesOfRueModel", "kindsSo", "(II)I"⟩, 51), (⟨"GlassesOfRueModel", "isSo", "(II)Z"⟩, 51), (⟨"GlassesOfRueModel", "numbersSo", "(II)I"⟩, 51), (⟨"GlassesOfRueModel", "wetsSo", "(II)I"⟩, 51), (⟨"GlassesOfRueModel", "ruesSo", "(III)I"⟩, 51), (⟨"GlassesOfRueModel", "textsSo", "(II)I"⟩, 51), (⟨"GlassesOfRueModel", "peopleSo", "(I)I"⟩, 51), (⟨"GlassesOfRueModel", "byLot", "(II)I"⟩, 51)]
theorem lw_r5 : ∀ q ∈ lw_privs_5, lw_okq q := List.forall_mem_cons.mpr ⟨lw_p64, List.forall_mem_cons.mpr ⟨lw_p65, List.forall_mem_cons.mpr ⟨lw_p66, List.forall_mem_cons.mpr ⟨lw_p67, List.forall_mem_cons.mpr ⟨lw_p68, List.forall_mem_cons.mpr ⟨lw_p69, List.forall_mem_cons.mpr ⟨lw_p70, List.forall_mem_cons.mpr ⟨lw_p71, List.forall_mem_cons.mpr ⟨lw_p72, List.forall_mem_cons.mpr ⟨lw_p73, fun _ h => absurd h List.not_mem_nil⟩⟩⟩⟩⟩⟩⟩⟩⟩⟩
def lw_privs : List (MethodName × Nat) := lw_privs_1 ++ (lw_privs_2 ++ (lw_privs_3 ++ (lw_privs_4 ++ (lw_privs_5))))
def lw_tbl : List Cond := k2_sels lw_privs ++ tables_1
theorem lw_privs_ok : ∀ q ∈ lw_privs, lw_okq q := by
  show ∀ q ∈ lw_privs_1 ++ (lw_privs_2 ++ (lw_privs_3 ++ (lw_privs_4 ++ (lw_privs_5)))), lw_okq q
  exact List.forall_mem_append.mpr ⟨lw_r1, List.forall_mem_append.mpr ⟨lw_r2, List.forall_mem_append.mpr ⟨lw_r3, List.forall_mem_append.mpr ⟨lw_r4, lw_r5⟩⟩⟩⟩
/-- the words that a method's contract carries: all of the tables but those of nest mates -/
def zT : List Cond := lw_tbl.filter goodWord
theorem zT_in {w : Cond} (h : w ∈ lw_tbl) (g : goodWord w = true) : w ∈ zT := List.mem_filter.mpr ⟨h, g⟩
theorem zT_all : zT.all goodWord = true := List.all_eq_true.mpr fun _ h => (List.mem_filter.mp h).2
theorem zT_sub {w : Cond} (h : w ∈ zT) : w ∈ lw_tbl := (List.mem_filter.mp h).1
end
section
def RX0 : String := "GlassesOfRue$Sheet"
def TX0 : u_T := fun k => match k with
  | 0 => ("GlassesOfRue$Sheet", "cells", "[I", true)
  | 1 => ("GlassesOfRue$Sheet", "sort", "I", false)
  | _ => ("GlassesOfRue$Sheet", "size", "I", false)
def tyX0 : Nat → FieldType := fun k => match k with
  | 0 => .array .int
  | 1 => .int
  | _ => .int
abbrev wsX00 : List Cond := u_ws RX0 TX0 3
theorem nmX0 : ∀ a, a < 3 → ∀ b, b < 3 → a ≠ b → (TX0 a).2.1 ≠ (TX0 b).2.1 := by decide +kernel
theorem tyX0_ok : ∀ k, k < 3 → parseFieldDescriptor (TX0 k).2.2.1 = some (tyX0 k) := by decide +kernel
abbrev cX0_init : ByteArray := prog_2_method_1_code
def yX0_init : MethodName := ⟨RX0, "<init>", "()V"⟩
abbrev cX0_become : ByteArray := prog_2_method_2_code
def yX0_become : MethodName := ⟨RX0, "become", "(II)V"⟩
abbrev cX0_put : ByteArray := prog_2_method_3_code
def yX0_put : MethodName := ⟨RX0, "put", "(II)V"⟩
abbrev cX0_at : ByteArray := prog_2_method_4_code
def yX0_at : MethodName := ⟨RX0, "at", "(I)I"⟩
abbrev cX0_holds : ByteArray := prog_2_method_5_code
def yX0_holds : MethodName := ⟨RX0, "holds", "(II)Z"⟩
def RX1 : String := "GlassesOfRue$Table"
def TX1 : u_T := fun k => match k with
  | 0 => ("GlassesOfRue$Table", "ways", "[J", true)
  | 1 => ("GlassesOfRue$Table", "bestWays", "[J", true)
  | 2 => ("GlassesOfRue$Table", "known", "[I", true)
  | 3 => ("GlassesOfRue$Table", "first", "I", false)
  | 4 => ("GlassesOfRue$Table", "second", "I", false)
  | 5 => ("GlassesOfRue$Table", "third", "I", false)
  | _ => ("GlassesOfRue$Table", "laid", "I", false)
def tyX1 : Nat → FieldType := fun k => match k with
  | 0 => .array .long
  | 1 => .array .long
  | 2 => .array .int
  | 3 => .int
  | 4 => .int
  | 5 => .int
  | _ => .int
abbrev wsX10 : List Cond := u_ws RX1 TX1 7
theorem nmX1 : ∀ a, a < 7 → ∀ b, b < 7 → a ≠ b → (TX1 a).2.1 ≠ (TX1 b).2.1 := by decide +kernel
theorem tyX1_ok : ∀ k, k < 7 → parseFieldDescriptor (TX1 k).2.2.1 = some (tyX1 k) := by decide +kernel
abbrev cX1_init : ByteArray := prog_3_method_1_code
def yX1_init : MethodName := ⟨RX1, "<init>", "()V"⟩
abbrev cX1_timesOf : ByteArray := prog_3_method_2_code
def yX1_timesOf : MethodName := ⟨RX1, "timesOf", "(III)I"⟩
abbrev cX1_timesLaid : ByteArray := prog_3_method_3_code
def yX1_timesLaid : MethodName := ⟨RX1, "timesLaid", "()I"⟩
abbrev cX1_lay : ByteArray := prog_3_method_4_code
def yX1_lay : MethodName := ⟨RX1, "lay", "(III)V"⟩
abbrev cX1_turnsTill : ByteArray := prog_3_method_5_code
def yX1_turnsTill : MethodName := ⟨RX1, "turnsTill", "(I)I"⟩
abbrev cX1_wayTill : ByteArray := prog_3_method_6_code
def yX1_wayTill : MethodName := ⟨RX1, "wayTill", "(I)I"⟩
abbrev cX1_passMinute : ByteArray := prog_3_method_7_code
def yX1_passMinute : MethodName := ⟨RX1, "passMinute", "(I)J"⟩
abbrev cX1_turnSets : ByteArray := prog_3_method_8_code
def yX1_turnSets : MethodName := ⟨RX1, "turnSets", "(IIJ)V"⟩
abbrev cX1_turned : ByteArray := prog_3_method_9_code
def yX1_turned : MethodName := ⟨RX1, "turned", "(III)I"⟩
abbrev cX1_sooner : ByteArray := prog_3_method_10_code
def yX1_sooner : MethodName := ⟨RX1, "sooner", "(II)I"⟩
abbrev cX1_withSet : ByteArray := prog_3_method_11_code
def yX1_withSet : MethodName := ⟨RX1, "withSet", "(JI)J"⟩
def RX2 : String := "GlassesOfRue$Tape"
def TX2 : u_T := fun k => match k with
  | 0 => ("GlassesOfRue$Tape", "bytes", "[I", true)
  | 1 => ("GlassesOfRue$Tape", "code", "[I", true)
  | 2 => ("GlassesOfRue$Tape", "ends", "[I", true)
  | 3 => ("GlassesOfRue$Tape", "size", "I", false)
  | 4 => ("GlassesOfRue$Tape", "codeSize", "I", false)
  | 5 => ("GlassesOfRue$Tape", "place", "I", false)
  | 6 => ("GlassesOfRue$Tape", "token", "I", false)
  | 7 => ("GlassesOfRue$Tape", "tokenPlace", "I", false)
  | _ => ("GlassesOfRue$Tape", "tokenValue", "I", false)
def tyX2 : Nat → FieldType := fun k => match k with
  | 0 => .array .int
  | 1 => .array .int
  | 2 => .array .int
  | 3 => .int
  | 4 => .int
  | 5 => .int
  | 6 => .int
  | 7 => .int
  | _ => .int
abbrev wsX20 : List Cond := u_ws RX2 TX2 9
theorem nmX2 : ∀ a, a < 9 → ∀ b, b < 9 → a ≠ b → (TX2 a).2.1 ≠ (TX2 b).2.1 := by decide +kernel
theorem tyX2_ok : ∀ k, k < 9 → parseFieldDescriptor (TX2 k).2.2.1 = some (tyX2 k) := by decide +kernel
abbrev cX2_init : ByteArray := prog_4_method_1_code
def yX2_init : MethodName := ⟨RX2, "<init>", "()V"⟩
abbrev cX2_add : ByteArray := prog_4_method_2_code
def yX2_add : MethodName := ⟨RX2, "add", "(I)I"⟩
abbrev cX2_read : ByteArray := prog_4_method_3_code
def yX2_read : MethodName := ⟨RX2, "read", "()I"⟩
abbrev cX2_readEither : ByteArray := prog_4_method_4_code
def yX2_readEither : MethodName := ⟨RX2, "readEither", "(I)Z"⟩
abbrev cX2_readBoth : ByteArray := prog_4_method_5_code
def yX2_readBoth : MethodName := ⟨RX2, "readBoth", "(I)Z"⟩
abbrev cX2_readDenied : ByteArray := prog_4_method_6_code
def yX2_readDenied : MethodName := ⟨RX2, "readDenied", "(I)Z"⟩
abbrev cX2_readSum : ByteArray := prog_4_method_7_code
def yX2_readSum : MethodName := ⟨RX2, "readSum", "(I)Z"⟩
abbrev cX2_readTerm : ByteArray := prog_4_method_8_code
def yX2_readTerm : MethodName := ⟨RX2, "readTerm", "(I)Z"⟩
abbrev cX2_readOne : ByteArray := prog_4_method_9_code
def yX2_readOne : MethodName := ⟨RX2, "readOne", "(I)Z"⟩
abbrev cX2_emit : ByteArray := prog_4_method_10_code
def yX2_emit : MethodName := ⟨RX2, "emit", "(I)V"⟩
abbrev cX2_next : ByteArray := prog_4_method_11_code
def yX2_next : MethodName := ⟨RX2, "next", "()V"⟩
abbrev cX2_nextNumber : ByteArray := prog_4_method_12_code
def yX2_nextNumber : MethodName := ⟨RX2, "nextNumber", "()V"⟩
abbrev cX2_nextWord : ByteArray := prog_4_method_13_code
def yX2_nextWord : MethodName := ⟨RX2, "nextWord", "()V"⟩
abbrev cX2_wordNumber : ByteArray := prog_4_method_14_code
def yX2_wordNumber : MethodName := ⟨RX2, "wordNumber", "(II)I"⟩
abbrev cX2_isDigit : ByteArray := prog_4_method_15_code
def yX2_isDigit : MethodName := ⟨RX2, "isDigit", "(I)Z"⟩
abbrev cX2_isLetter : ByteArray := prog_4_method_16_code
def yX2_isLetter : MethodName := ⟨RX2, "isLetter", "(I)Z"⟩
def RX3 : String := "GlassesOfRue$Text"
def TX3 : u_T := fun k => match k with
  | 0 => ("GlassesOfRue$Text", "code", "[I", true)
  | 1 => ("GlassesOfRue$Text", "ends", "[I", true)
  | _ => ("GlassesOfRue$Text", "stack", "[I", true)
def tyX3 : Nat → FieldType := fun k => match k with
  | 0 => .array .int
  | 1 => .array .int
  | _ => .array .int
abbrev wsX30 : List Cond := u_ws RX3 TX3 3
theorem nmX3 : ∀ a, a < 3 → ∀ b, b < 3 → a ≠ b → (TX3 a).2.1 ≠ (TX3 b).2.1 := by decide +kernel
theorem tyX3_ok : ∀ k, k < 3 → parseFieldDescriptor (TX3 k).2.2.1 = some (tyX3 k) := by decide +kernel
abbrev cX3_init : ByteArray := prog_5_method_1_code
def yX3_init : MethodName := ⟨RX3, "<init>", "()V"⟩
abbrev cX3_become : ByteArray := prog_5_method_2_code
def yX3_become : MethodName := ⟨RX3, "become", "(LGlassesOfRue$Tape;)V"⟩
abbrev cX3_tell : ByteArray := prog_5_method_3_code
def yX3_tell : MethodName := ⟨RX3, "tell", "(I[I)I"⟩
abbrev cX3_changed : ByteArray := prog_5_method_4_code
def yX3_changed : MethodName := ⟨RX3, "changed", "(II)I"⟩
abbrev cX3_joined : ByteArray := prog_5_method_5_code
def yX3_joined : MethodName := ⟨RX3, "joined", "(III)I"⟩
def RX4 : String := "GlassesOfRue$World"
def TX4 : u_T := fun k => match k with
  | 0 => ("GlassesOfRue$World", "texts", "[LGlassesOfRue$Text;", true)
  | 1 => ("GlassesOfRue$World", "kind", "[I", true)
  | 2 => ("GlassesOfRue$World", "number", "[I", true)
  | 3 => ("GlassesOfRue$World", "rue", "[I", true)
  | 4 => ("GlassesOfRue$World", "had", "[I", true)
  | 5 => ("GlassesOfRue$World", "more", "[I", true)
  | 6 => ("GlassesOfRue$World", "names", "[I", true)
  | 7 => ("GlassesOfRue$World", "size", "I", false)
  | 8 => ("GlassesOfRue$World", "day", "I", false)
  | 9 => ("GlassesOfRue$World", "wet", "I", false)
  | _ => ("GlassesOfRue$World", "rule", "I", false)
def tyX4 : Nat → FieldType := fun k => match k with
  | 0 => .array (.object "GlassesOfRue$Text")
  | 1 => .array .int
  | 2 => .array .int
  | 3 => .array .int
  | 4 => .array .int
  | 5 => .array .int
  | 6 => .array .int
  | 7 => .int
  | 8 => .int
  | 9 => .int
  | _ => .int
abbrev wsX40 : List Cond := u_ws RX4 TX4 11
theorem nmX4 : ∀ a, a < 11 → ∀ b, b < 11 → a ≠ b → (TX4 a).2.1 ≠ (TX4 b).2.1 := by decide +kernel
theorem tyX4_ok : ∀ k, k < 11 → parseFieldDescriptor (TX4 k).2.2.1 = some (tyX4 k) := by decide +kernel
abbrev cX4_init : ByteArray := prog_6_method_1_code
def yX4_init : MethodName := ⟨RX4, "<init>", "([LGlassesOfRue$Text;)V"⟩
abbrev cX4_become : ByteArray := prog_6_method_2_code
def yX4_become : MethodName := ⟨RX4, "become", "(LGlassesOfRue$World;)V"⟩
abbrev cX4_canBe : ByteArray := prog_6_method_3_code
def yX4_canBe : MethodName := ⟨RX4, "canBe", "(III)Z"⟩
abbrev cX4_come : ByteArray := prog_6_method_4_code
def yX4_come : MethodName := ⟨RX4, "come", "(III)I"⟩
abbrev cX4_has : ByteArray := prog_6_method_5_code
def yX4_has : MethodName := ⟨RX4, "has", "(I)Z"⟩
abbrev cX4_runsOf : ByteArray := prog_6_method_6_code
def yX4_runsOf : MethodName := ⟨RX4, "runsOf", "(I)I"⟩
abbrev cX4_clogsOf : ByteArray := prog_6_method_7_code
def yX4_clogsOf : MethodName := ⟨RX4, "clogsOf", "(I)Z"⟩
abbrev cX4_ruesOf : ByteArray := prog_6_method_8_code
def yX4_ruesOf : MethodName := ⟨RX4, "ruesOf", "(I)I"⟩
abbrev cX4_minutesOf : ByteArray := prog_6_method_9_code
def yX4_minutesOf : MethodName := ⟨RX4, "minutesOf", "(I)I"⟩
abbrev cX4_passDay : ByteArray := prog_6_method_10_code
def yX4_passDay : MethodName := ⟨RX4, "passDay", "()V"⟩
abbrev cX4_passDays : ByteArray := prog_6_method_11_code
def yX4_passDays : MethodName := ⟨RX4, "passDays", "(I)V"⟩
abbrev cX4_drawOff : ByteArray := prog_6_method_12_code
def yX4_drawOff : MethodName := ⟨RX4, "drawOff", "(III)V"⟩
abbrev cX4_rueOfAll : ByteArray := prog_6_method_13_code
def yX4_rueOfAll : MethodName := ⟨RX4, "rueOfAll", "()I"⟩
abbrev cX4_mostRue : ByteArray := prog_6_method_14_code
def yX4_mostRue : MethodName := ⟨RX4, "mostRue", "()I"⟩
abbrev cX4_longest : ByteArray := prog_6_method_15_code
def yX4_longest : MethodName := ⟨RX4, "longest", "()I"⟩
abbrev cX4_whoClog : ByteArray := prog_6_method_16_code
def yX4_whoClog : MethodName := ⟨RX4, "whoClog", "()I"⟩
abbrev cX4_ruleTells : ByteArray := prog_6_method_17_code
def yX4_ruleTells : MethodName := ⟨RX4, "ruleTells", "(II)I"⟩
def RX5 : String := "GlassesOfRue"
def TX5 : u_T := fun k => match k with
  | 0 => ("GlassesOfRue", "texts", "[LGlassesOfRue$Text;", true)
  | 1 => ("GlassesOfRue", "tape", "LGlassesOfRue$Tape;", true)
  | 2 => ("GlassesOfRue", "table", "LGlassesOfRue$Table;", true)
  | 3 => ("GlassesOfRue", "now", "LGlassesOfRue$World;", true)
  | 4 => ("GlassesOfRue", "thought", "LGlassesOfRue$World;", true)
  | 5 => ("GlassesOfRue", "kept", "LGlassesOfRue$World;", true)
  | 6 => ("GlassesOfRue", "sheets", "[LGlassesOfRue$Sheet;", true)
  | 7 => ("GlassesOfRue", "textCount", "I", false)
  | _ => ("GlassesOfRue", "imageKept", "Z", false)
def tyX5 : Nat → FieldType := fun k => match k with
  | 0 => .array (.object "GlassesOfRue$Text")
  | 1 => .object "GlassesOfRue$Tape"
  | 2 => .object "GlassesOfRue$Table"
  | 3 => .object "GlassesOfRue$World"
  | 4 => .object "GlassesOfRue$World"
  | 5 => .object "GlassesOfRue$World"
  | 6 => .array (.object "GlassesOfRue$Sheet")
  | 7 => .int
  | _ => .boolean
abbrev wsX50 : List Cond := u_ws RX5 TX5 9
theorem nmX5 : ∀ a, a < 9 → ∀ b, b < 9 → a ≠ b → (TX5 a).2.1 ≠ (TX5 b).2.1 := by decide +kernel
theorem tyX5_ok : ∀ k, k < 9 → parseFieldDescriptor (TX5 k).2.2.1 = some (tyX5 k) := by decide +kernel
abbrev cX5_init : ByteArray := prog_1_method_1_code
def yX5_init : MethodName := ⟨RX5, "<init>", "()V"⟩
abbrev cX5_set : ByteArray := prog_1_method_2_code
def yX5_set : MethodName := ⟨RX5, "set", "(III)I"⟩
abbrev cX5_person : ByteArray := prog_1_method_3_code
def yX5_person : MethodName := ⟨RX5, "person", "(III)I"⟩
abbrev cX5_told : ByteArray := prog_1_method_4_code
def yX5_told : MethodName := ⟨RX5, "told", "(II)I"⟩
abbrev cX5_held : ByteArray := prog_1_method_5_code
def yX5_held : MethodName := ⟨RX5, "held", "(II)I"⟩
abbrev cX5_heldMost : ByteArray := prog_1_method_6_code
def yX5_heldMost : MethodName := ⟨RX5, "heldMost", "(I)I"⟩
abbrev cX5_feed : ByteArray := prog_1_method_7_code
def yX5_feed : MethodName := ⟨RX5, "feed", "(I)I"⟩
abbrev cX5_text : ByteArray := prog_1_method_8_code
def yX5_text : MethodName := ⟨RX5, "text", "()I"⟩
abbrev cX5_force : ByteArray := prog_1_method_9_code
def yX5_force : MethodName := ⟨RX5, "force", "(I)I"⟩
abbrev cX5_day : ByteArray := prog_1_method_10_code
def yX5_day : MethodName := ⟨RX5, "day", "()I"⟩
abbrev cX5_draw : ByteArray := prog_1_method_11_code
def yX5_draw : MethodName := ⟨RX5, "draw", "(III)I"⟩
abbrev cX5_run : ByteArray := prog_1_method_12_code
def yX5_run : MethodName := ⟨RX5, "run", "(III)I"⟩
abbrev cX5_all : ByteArray := prog_1_method_13_code
def yX5_all : MethodName := ⟨RX5, "all", "(I)I"⟩
abbrev cX5_times : ByteArray := prog_1_method_14_code
def yX5_times : MethodName := ⟨RX5, "times", "(I)J"⟩
abbrev cX5_fewest : ByteArray := prog_1_method_15_code
def yX5_fewest : MethodName := ⟨RX5, "fewest", "(III)I"⟩
abbrev cX5_best : ByteArray := prog_1_method_16_code
def yX5_best : MethodName := ⟨RX5, "best", "(II)I"⟩
abbrev cX5_makes : ByteArray := prog_1_method_17_code
def yX5_makes : MethodName := ⟨RX5, "makes", "(III)I"⟩
abbrev cX5_nextTold : ByteArray := prog_1_method_18_code
def yX5_nextTold : MethodName := ⟨RX5, "nextTold", "(II)I"⟩
abbrev cX5_isThree : ByteArray := prog_1_method_19_code
def yX5_isThree : MethodName := ⟨RX5, "isThree", "(I)Z"⟩
abbrev cX5_timesOf : ByteArray := prog_1_method_20_code
def yX5_timesOf : MethodName := ⟨RX5, "timesOf", "(LGlassesOfRue$World;I)I"⟩
abbrev cX5_layGlasses : ByteArray := prog_1_method_21_code
def yX5_layGlasses : MethodName := ⟨RX5, "layGlasses", "(I)V"⟩
abbrev cX5_isMinute : ByteArray := prog_1_method_22_code
def yX5_isMinute : MethodName := ⟨RX5, "isMinute", "(I)Z"⟩
abbrev cX5_tells : ByteArray := prog_1_method_23_code
def yX5_tells : MethodName := ⟨RX5, "tells", "(III)I"⟩
abbrev cX5_film : ByteArray := prog_1_method_24_code
def yX5_film : MethodName := ⟨RX5, "film", "(III)I"⟩
abbrev cX5_drawn : ByteArray := prog_1_method_25_code
def yX5_drawn : MethodName := ⟨RX5, "drawn", "(II)I"⟩
abbrev cX5_chance : ByteArray := prog_1_method_26_code
def yX5_chance : MethodName := ⟨RX5, "chance", "(IIII)J"⟩
abbrev cX5_image : ByteArray := prog_1_method_27_code
def yX5_image : MethodName := ⟨RX5, "image", "()I"⟩
abbrev cX5_back : ByteArray := prog_1_method_28_code
def yX5_back : MethodName := ⟨RX5, "back", "()I"⟩
abbrev cX5_count : ByteArray := prog_1_method_29_code
def yX5_count : MethodName := ⟨RX5, "count", "(I)I"⟩
abbrev cX5_choices : ByteArray := prog_1_method_30_code
def yX5_choices : MethodName := ⟨RX5, "choices", "(I)I"⟩
abbrev cX5_firstOtherwise : ByteArray := prog_1_method_31_code
def yX5_firstOtherwise : MethodName := ⟨RX5, "firstOtherwise", "(LGlassesOfRue$Sheet;III)I"⟩
abbrev cX5_clogsBySeed : ByteArray := prog_1_method_32_code
def yX5_clogsBySeed : MethodName := ⟨RX5, "clogsBySeed", "(II)I"⟩
abbrev cX5_greatestShared : ByteArray := prog_1_method_33_code
def yX5_greatestShared : MethodName := ⟨RX5, "greatestShared", "(II)I"⟩
abbrev cX5_sheet : ByteArray := prog_1_method_34_code
def yX5_sheet : MethodName := ⟨RX5, "sheet", "(III)I"⟩
abbrev cX5_cell : ByteArray := prog_1_method_35_code
def yX5_cell : MethodName := ⟨RX5, "cell", "(III)I"⟩
abbrev cX5_copy : ByteArray := prog_1_method_36_code
def yX5_copy : MethodName := ⟨RX5, "copy", "(IIIII)I"⟩
abbrev cX5_people : ByteArray := prog_1_method_37_code
def yX5_people : MethodName := ⟨RX5, "people", "(IIII)I"⟩
abbrev cX5_taken : ByteArray := prog_1_method_38_code
def yX5_taken : MethodName := ⟨RX5, "taken", "(II)I"⟩
abbrev cX5_isUnder : ByteArray := prog_1_method_39_code
def yX5_isUnder : MethodName := ⟨RX5, "isUnder", "(II)Z"⟩
abbrev cX5_kindAbove : ByteArray := prog_1_method_40_code
def yX5_kindAbove : MethodName := ⟨RX5, "kindAbove", "(I)I"⟩
abbrev cX5_within : ByteArray := prog_1_method_41_code
def yX5_within : MethodName := ⟨RX5, "within", "(III)Z"⟩
abbrev cX5_bounded : ByteArray := prog_1_method_42_code
def yX5_bounded : MethodName := ⟨RX5, "bounded", "(III)I"⟩
def RX6 : String := "GlassesOfRueModel"
def TX6 : u_T := fun k => match k with
  | 0 => ("GlassesOfRueModel", "day", "I", false)
  | 1 => ("GlassesOfRueModel", "wet", "I", false)
  | 2 => ("GlassesOfRueModel", "many", "I", false)
  | 3 => ("GlassesOfRueModel", "kind", "[I", true)
  | 4 => ("GlassesOfRueModel", "number", "[I", true)
  | 5 => ("GlassesOfRueModel", "rue", "[I", true)
  | 6 => ("GlassesOfRueModel", "had", "[I", true)
  | 7 => ("GlassesOfRueModel", "rule", "I", false)
  | 8 => ("GlassesOfRueModel", "taped", "I", false)
  | 9 => ("GlassesOfRueModel", "tape", "[I", true)
  | 10 => ("GlassesOfRueModel", "texts", "I", false)
  | 11 => ("GlassesOfRueModel", "begins", "[I", true)
  | 12 => ("GlassesOfRueModel", "length", "[I", true)
  | 13 => ("GlassesOfRueModel", "code", "[I", true)
  | 14 => ("GlassesOfRueModel", "coded", "I", false)
  | 15 => ("GlassesOfRueModel", "from", "I", false)
  | 16 => ("GlassesOfRueModel", "to", "I", false)
  | 17 => ("GlassesOfRueModel", "token", "I", false)
  | 18 => ("GlassesOfRueModel", "value", "I", false)
  | 19 => ("GlassesOfRueModel", "word", "I", false)
  | 20 => ("GlassesOfRueModel", "waits", "[I", true)
  | 21 => ("GlassesOfRueModel", "top", "I", false)
  | 22 => ("GlassesOfRueModel", "open", "I", false)
  | 23 => ("GlassesOfRueModel", "compared", "Z", false)
  | 24 => ("GlassesOfRueModel", "behind", "Z", false)
  | 25 => ("GlassesOfRueModel", "starts", "Z", false)
  | 26 => ("GlassesOfRueModel", "stack", "[I", true)
  | 27 => ("GlassesOfRueModel", "names", "[I", true)
  | 28 => ("GlassesOfRueModel", "wasDay", "I", false)
  | 29 => ("GlassesOfRueModel", "wasWet", "I", false)
  | 30 => ("GlassesOfRueModel", "wasRue", "[I", true)
  | 31 => ("GlassesOfRueModel", "wasHad", "[I", true)
  | 32 => ("GlassesOfRueModel", "more", "[I", true)
  | 33 => ("GlassesOfRueModel", "one", "I", false)
  | 34 => ("GlassesOfRueModel", "two", "I", false)
  | 35 => ("GlassesOfRueModel", "three", "I", false)
  | 36 => ("GlassesOfRueModel", "reached", "[Z", true)
  | 37 => ("GlassesOfRueModel", "fewest", "[I", true)
  | 38 => ("GlassesOfRueModel", "above", "I", false)
  | 39 => ("GlassesOfRueModel", "runsFor", "I", false)
  | 40 => ("GlassesOfRueModel", "imaged", "Z", false)
  | 41 => ("GlassesOfRueModel", "imageMany", "I", false)
  | 42 => ("GlassesOfRueModel", "imageDay", "I", false)
  | 43 => ("GlassesOfRueModel", "imageWet", "I", false)
  | 44 => ("GlassesOfRueModel", "imageRule", "I", false)
  | 45 => ("GlassesOfRueModel", "imageNumbers", "[I", true)
  | 46 => ("GlassesOfRueModel", "imageRue", "[I", true)
  | 47 => ("GlassesOfRueModel", "imageHad", "[I", true)
  | 48 => ("GlassesOfRueModel", "sheetSort", "[I", true)
  | 49 => ("GlassesOfRueModel", "sheetSize", "[I", true)
  | _ => ("GlassesOfRueModel", "cells", "[I", true)
def tyX6 : Nat → FieldType := fun k => match k with
  | 0 => .int
  | 1 => .int
  | 2 => .int
  | 3 => .array .int
  | 4 => .array .int
  | 5 => .array .int
  | 6 => .array .int
  | 7 => .int
  | 8 => .int
  | 9 => .array .int
  | 10 => .int
  | 11 => .array .int
  | 12 => .array .int
  | 13 => .array .int
  | 14 => .int
  | 15 => .int
  | 16 => .int
  | 17 => .int
  | 18 => .int
  | 19 => .int
  | 20 => .array .int
  | 21 => .int
  | 22 => .int
  | 23 => .boolean
  | 24 => .boolean
  | 25 => .boolean
  | 26 => .array .int
  | 27 => .array .int
  | 28 => .int
  | 29 => .int
  | 30 => .array .int
  | 31 => .array .int
  | 32 => .array .int
  | 33 => .int
  | 34 => .int
  | 35 => .int
  | 36 => .array .boolean
  | 37 => .array .int
  | 38 => .int
  | 39 => .int
  | 40 => .boolean
  | 41 => .int
  | 42 => .int
  | 43 => .int
  | 44 => .int
  | 45 => .array .int
  | 46 => .array .int
  | 47 => .array .int
  | 48 => .array .int
  | 49 => .array .int
  | _ => .array .int
abbrev wsX60 : List Cond := u_ws RX6 TX6 51
theorem nmX6 : ∀ a, a < 51 → ∀ b, b < 51 → a ≠ b → (TX6 a).2.1 ≠ (TX6 b).2.1 := by decide +kernel
theorem tyX6_ok : ∀ k, k < 51 → parseFieldDescriptor (TX6 k).2.2.1 = some (tyX6 k) := by decide +kernel
abbrev cX6_init : ByteArray := prog_8_method_1_code
def yX6_init : MethodName := ⟨RX6, "<init>", "()V"⟩
abbrev cX6_within : ByteArray := prog_8_method_2_code
def yX6_within : MethodName := ⟨RX6, "within", "(III)Z"⟩
abbrev cX6_bound : ByteArray := prog_8_method_3_code
def yX6_bound : MethodName := ⟨RX6, "bound", "(III)I"⟩
abbrev cX6_isOne : ByteArray := prog_8_method_4_code
def yX6_isOne : MethodName := ⟨RX6, "isOne", "(I)Z"⟩
abbrev cX6_areThree : ByteArray := prog_8_method_5_code
def yX6_areThree : MethodName := ⟨RX6, "areThree", "(I)Z"⟩
abbrev cX6_isSheet : ByteArray := prog_8_method_6_code
def yX6_isSheet : MethodName := ⟨RX6, "isSheet", "(I)Z"⟩
abbrev cX6_isOf : ByteArray := prog_8_method_7_code
def yX6_isOf : MethodName := ⟨RX6, "isOf", "(II)Z"⟩
abbrev cX6_get : ByteArray := prog_8_method_8_code
def yX6_get : MethodName := ⟨RX6, "get", "(II)I"⟩
abbrev cX6_set : ByteArray := prog_8_method_9_code
def yX6_set : MethodName := ⟨RX6, "set", "(III)I"⟩
abbrev cX6_person : ByteArray := prog_8_method_10_code
def yX6_person : MethodName := ⟨RX6, "person", "(III)I"⟩
abbrev cX6_told : ByteArray := prog_8_method_11_code
def yX6_told : MethodName := ⟨RX6, "told", "(II)I"⟩
abbrev cX6_feed : ByteArray := prog_8_method_12_code
def yX6_feed : MethodName := ⟨RX6, "feed", "(I)I"⟩
abbrev cX6_isLetter : ByteArray := prog_8_method_13_code
def yX6_isLetter : MethodName := ⟨RX6, "isLetter", "(I)Z"⟩
abbrev cX6_isDigit : ByteArray := prog_8_method_14_code
def yX6_isDigit : MethodName := ⟨RX6, "isDigit", "(I)Z"⟩
abbrev cX6_isSign : ByteArray := prog_8_method_15_code
def yX6_isSign : MethodName := ⟨RX6, "isSign", "(I)Z"⟩
abbrev cX6_named : ByteArray := prog_8_method_16_code
def yX6_named : MethodName := ⟨RX6, "named", "()I"⟩
abbrev cX6_isKey : ByteArray := prog_8_method_17_code
def yX6_isKey : MethodName := ⟨RX6, "isKey", "()Z"⟩
abbrev cX6_next : ByteArray := prog_8_method_18_code
def yX6_next : MethodName := ⟨RX6, "next", "()V"⟩
abbrev cX6_takes : ByteArray := prog_8_method_19_code
def yX6_takes : MethodName := ⟨RX6, "takes", "(I)Z"⟩
abbrev cX6_codes : ByteArray := prog_8_method_20_code
def yX6_codes : MethodName := ⟨RX6, "codes", "(I)V"⟩
abbrev cX6_rank : ByteArray := prog_8_method_21_code
def yX6_rank : MethodName := ⟨RX6, "rank", "(I)I"⟩
abbrev cX6_lays : ByteArray := prog_8_method_22_code
def yX6_lays : MethodName := ⟨RX6, "lays", "(I)V"⟩
abbrev cX6_push : ByteArray := prog_8_method_23_code
def yX6_push : MethodName := ⟨RX6, "push", "(I)V"⟩
abbrev cX6_one : ByteArray := prog_8_method_24_code
def yX6_one : MethodName := ⟨RX6, "one", "(Z)Z"⟩
abbrev cX6_signed : ByteArray := prog_8_method_25_code
def yX6_signed : MethodName := ⟨RX6, "signed", "()I"⟩
abbrev cX6_closes : ByteArray := prog_8_method_26_code
def yX6_closes : MethodName := ⟨RX6, "closes", "()Z"⟩
abbrev cX6_goesOn : ByteArray := prog_8_method_27_code
def yX6_goesOn : MethodName := ⟨RX6, "goesOn", "()Z"⟩
abbrev cX6_part : ByteArray := prog_8_method_28_code
def yX6_part : MethodName := ⟨RX6, "part", "(II)Z"⟩
abbrev cX6_text : ByteArray := prog_8_method_29_code
def yX6_text : MethodName := ⟨RX6, "text", "()I"⟩
abbrev cX6_force : ByteArray := prog_8_method_30_code
def yX6_force : MethodName := ⟨RX6, "force", "(I)I"⟩
abbrev cX6_ruled : ByteArray := prog_8_method_31_code
def yX6_ruled : MethodName := ⟨RX6, "ruled", "(I)I"⟩
abbrev cX6_both : ByteArray := prog_8_method_32_code
def yX6_both : MethodName := ⟨RX6, "both", "(III)I"⟩
abbrev cX6_mostRue : ByteArray := prog_8_method_33_code
def yX6_mostRue : MethodName := ⟨RX6, "mostRue", "()I"⟩
abbrev cX6_ruledFor : ByteArray := prog_8_method_34_code
def yX6_ruledFor : MethodName := ⟨RX6, "ruledFor", "(II)I"⟩
abbrev cX6_runsOf : ByteArray := prog_8_method_35_code
def yX6_runsOf : MethodName := ⟨RX6, "runsOf", "(I)I"⟩
abbrev cX6_isClogged : ByteArray := prog_8_method_36_code
def yX6_isClogged : MethodName := ⟨RX6, "isClogged", "(I)Z"⟩
abbrev cX6_ruesOf : ByteArray := prog_8_method_37_code
def yX6_ruesOf : MethodName := ⟨RX6, "ruesOf", "(I)I"⟩
abbrev cX6_minutes : ByteArray := prog_8_method_38_code
def yX6_minutes : MethodName := ⟨RX6, "minutes", "(I)I"⟩
abbrev cX6_goes : ByteArray := prog_8_method_39_code
def yX6_goes : MethodName := ⟨RX6, "goes", "()V"⟩
abbrev cX6_allRue : ByteArray := prog_8_method_40_code
def yX6_allRue : MethodName := ⟨RX6, "allRue", "()I"⟩
abbrev cX6_day : ByteArray := prog_8_method_41_code
def yX6_day : MethodName := ⟨RX6, "day", "()I"⟩
abbrev cX6_drawsOff : ByteArray := prog_8_method_42_code
def yX6_drawsOff : MethodName := ⟨RX6, "drawsOff", "(III)V"⟩
abbrev cX6_draw : ByteArray := prog_8_method_43_code
def yX6_draw : MethodName := ⟨RX6, "draw", "(III)I"⟩
abbrev cX6_keeps : ByteArray := prog_8_method_44_code
def yX6_keeps : MethodName := ⟨RX6, "keeps", "()V"⟩
abbrev cX6_restores : ByteArray := prog_8_method_45_code
def yX6_restores : MethodName := ⟨RX6, "restores", "()V"⟩
abbrev cX6_run : ByteArray := prog_8_method_46_code
def yX6_run : MethodName := ⟨RX6, "run", "(III)I"⟩
abbrev cX6_longest : ByteArray := prog_8_method_47_code
def yX6_longest : MethodName := ⟨RX6, "longest", "()I"⟩
abbrev cX6_clogged : ByteArray := prog_8_method_48_code
def yX6_clogged : MethodName := ⟨RX6, "clogged", "()I"⟩
abbrev cX6_all : ByteArray := prog_8_method_49_code
def yX6_all : MethodName := ⟨RX6, "all", "(I)I"⟩
abbrev cX6_pours : ByteArray := prog_8_method_50_code
def yX6_pours : MethodName := ⟨RX6, "pours", "(I)V"⟩
abbrev cX6_turned : ByteArray := prog_8_method_51_code
def yX6_turned : MethodName := ⟨RX6, "turned", "(II)V"⟩
abbrev cX6_sizeOf : ByteArray := prog_8_method_52_code
def yX6_sizeOf : MethodName := ⟨RX6, "sizeOf", "(I)I"⟩
abbrev cX6_toldTimes : ByteArray := prog_8_method_53_code
def yX6_toldTimes : MethodName := ⟨RX6, "toldTimes", "()J"⟩
abbrev cX6_times : ByteArray := prog_8_method_54_code
def yX6_times : MethodName := ⟨RX6, "times", "(I)J"⟩
abbrev cX6_isWay : ByteArray := prog_8_method_55_code
def yX6_isWay : MethodName := ⟨RX6, "isWay", "(III)Z"⟩
abbrev cX6_counts : ByteArray := prog_8_method_56_code
def yX6_counts : MethodName := ⟨RX6, "counts", "(I)V"⟩
abbrev cX6_byFirst : ByteArray := prog_8_method_57_code
def yX6_byFirst : MethodName := ⟨RX6, "byFirst", "(IIII)I"⟩
abbrev cX6_wayTo : ByteArray := prog_8_method_58_code
def yX6_wayTo : MethodName := ⟨RX6, "wayTo", "(I)I"⟩
abbrev cX6_isMinute : ByteArray := prog_8_method_59_code
def yX6_isMinute : MethodName := ⟨RX6, "isMinute", "(I)Z"⟩
abbrev cX6_nextTold : ByteArray := prog_8_method_60_code
def yX6_nextTold : MethodName := ⟨RX6, "nextTold", "(I)I"⟩
abbrev cX6_fewest : ByteArray := prog_8_method_61_code
def yX6_fewest : MethodName := ⟨RX6, "fewest", "(III)I"⟩
abbrev cX6_best : ByteArray := prog_8_method_62_code
def yX6_best : MethodName := ⟨RX6, "best", "(II)I"⟩
abbrev cX6_isTold : ByteArray := prog_8_method_63_code
def yX6_isTold : MethodName := ⟨RX6, "isTold", "(II)Z"⟩
abbrev cX6_drawFor : ByteArray := prog_8_method_64_code
def yX6_drawFor : MethodName := ⟨RX6, "drawFor", "(II)I"⟩
abbrev cX6_daysFor : ByteArray := prog_8_method_65_code
def yX6_daysFor : MethodName := ⟨RX6, "daysFor", "(II)I"⟩
abbrev cX6_makes : ByteArray := prog_8_method_66_code
def yX6_makes : MethodName := ⟨RX6, "makes", "(III)I"⟩
abbrev cX6_wrong : ByteArray := prog_8_method_67_code
def yX6_wrong : MethodName := ⟨RX6, "wrong", "(II)I"⟩
abbrev cX6_isSo : ByteArray := prog_8_method_68_code
def yX6_isSo : MethodName := ⟨RX6, "isSo", "(II)Z"⟩
abbrev cX6_kindsSo : ByteArray := prog_8_method_69_code
def yX6_kindsSo : MethodName := ⟨RX6, "kindsSo", "(II)I"⟩
abbrev cX6_numbersSo : ByteArray := prog_8_method_70_code
def yX6_numbersSo : MethodName := ⟨RX6, "numbersSo", "(II)I"⟩
abbrev cX6_wetsSo : ByteArray := prog_8_method_71_code
def yX6_wetsSo : MethodName := ⟨RX6, "wetsSo", "(II)I"⟩
abbrev cX6_ruesSo : ByteArray := prog_8_method_72_code
def yX6_ruesSo : MethodName := ⟨RX6, "ruesSo", "(III)I"⟩
abbrev cX6_textsSo : ByteArray := prog_8_method_73_code
def yX6_textsSo : MethodName := ⟨RX6, "textsSo", "(II)I"⟩
abbrev cX6_peopleSo : ByteArray := prog_8_method_74_code
def yX6_peopleSo : MethodName := ⟨RX6, "peopleSo", "(I)I"⟩
abbrev cX6_tells : ByteArray := prog_8_method_75_code
def yX6_tells : MethodName := ⟨RX6, "tells", "(III)I"⟩
abbrev cX6_film : ByteArray := prog_8_method_76_code
def yX6_film : MethodName := ⟨RX6, "film", "(III)I"⟩
abbrev cX6_byLot : ByteArray := prog_8_method_77_code
def yX6_byLot : MethodName := ⟨RX6, "byLot", "(II)I"⟩
abbrev cX6_drawn : ByteArray := prog_8_method_78_code
def yX6_drawn : MethodName := ⟨RX6, "drawn", "(II)I"⟩
abbrev cX6_chance : ByteArray := prog_8_method_79_code
def yX6_chance : MethodName := ⟨RX6, "chance", "(IIII)J"⟩
abbrev cX6_image : ByteArray := prog_8_method_80_code
def yX6_image : MethodName := ⟨RX6, "image", "()I"⟩
abbrev cX6_back : ByteArray := prog_8_method_81_code
def yX6_back : MethodName := ⟨RX6, "back", "()I"⟩
abbrev cX6_count : ByteArray := prog_8_method_82_code
def yX6_count : MethodName := ⟨RX6, "count", "(I)I"⟩
abbrev cX6_sheet : ByteArray := prog_8_method_83_code
def yX6_sheet : MethodName := ⟨RX6, "sheet", "(III)I"⟩
abbrev cX6_cell : ByteArray := prog_8_method_84_code
def yX6_cell : MethodName := ⟨RX6, "cell", "(III)I"⟩
abbrev cX6_copy : ByteArray := prog_8_method_85_code
def yX6_copy : MethodName := ⟨RX6, "copy", "(IIIII)I"⟩
abbrev cX6_people : ByteArray := prog_8_method_86_code
def yX6_people : MethodName := ⟨RX6, "people", "(IIII)I"⟩
abbrev cX6_taken : ByteArray := prog_8_method_87_code
def yX6_taken : MethodName := ⟨RX6, "taken", "(II)I"⟩
def RJ11 : String := "java/lang/Character"
abbrev cJ11_isValidCodePoint_9a6ad : ByteArray := prog_9_method_11_code
def yJ11_isValidCodePoint_9a6ad : MethodName := ⟨RJ11, "isValidCodePoint", "(I)Z"⟩
abbrev cJ11_highSurrogate_5068e : ByteArray := prog_9_method_28_code
def yJ11_highSurrogate_5068e : MethodName := ⟨RJ11, "highSurrogate", "(I)C"⟩
abbrev cJ11_lowSurrogate_5068e : ByteArray := prog_9_method_29_code
def yJ11_lowSurrogate_5068e : MethodName := ⟨RJ11, "lowSurrogate", "(I)C"⟩
def RJ6 : String := "java/lang/Integer"
abbrev cJ6_bitCount_0f7a4 : ByteArray := prog_10_method_49_code
def yJ6_bitCount_0f7a4 : MethodName := ⟨RJ6, "bitCount", "(I)I"⟩
def RJ9 : String := "java/lang/Math"
abbrev cJ9_max_7cf53 : ByteArray := prog_11_method_65_code
def yJ9_max_7cf53 : MethodName := ⟨RJ9, "max", "(II)I"⟩
abbrev cJ9_min_7cf53 : ByteArray := prog_11_method_69_code
def yJ9_min_7cf53 : MethodName := ⟨RJ9, "min", "(II)I"⟩
abbrev cJ9_min_f86c9 : ByteArray := prog_11_method_70_code
def yJ9_min_f86c9 : MethodName := ⟨RJ9, "min", "(JJ)J"⟩
def RJ0 : String := "java/lang/String"
abbrev cJ0_length_8abf5 : ByteArray := prog_12_method_54_code
def yJ0_length_8abf5 : MethodName := ⟨RJ0, "length", "()I"⟩
abbrev cJ0_charAt_5068e : ByteArray := prog_12_method_56_code
def yJ0_charAt_5068e : MethodName := ⟨RJ0, "charAt", "(I)C"⟩
abbrev cJ0_indexOf_0f7a4 : ByteArray := prog_12_method_79_code
def yJ0_indexOf_0f7a4 : MethodName := ⟨RJ0, "indexOf", "(I)I"⟩
abbrev cJ0_indexOf_7cf53 : ByteArray := prog_12_method_80_code
def yJ0_indexOf_7cf53 : MethodName := ⟨RJ0, "indexOf", "(II)I"⟩
abbrev cJ0_coder_7d493 : ByteArray := prog_12_method_152_code
def yJ0_coder_7d493 : MethodName := ⟨RJ0, "coder", "()B"⟩
abbrev cJ0_isLatin1_aae02 : ByteArray := prog_12_method_154_code
def yJ0_isLatin1_aae02 : MethodName := ⟨RJ0, "isLatin1", "()Z"⟩
abbrev cJ0_checkIndex_df160 : ByteArray := prog_12_method_155_code
def yJ0_checkIndex_df160 : MethodName := ⟨RJ0, "checkIndex", "(II)V"⟩
abbrev cJ0_checkBoundsBeginEnd_23922 : ByteArray := prog_12_method_158_code
def yJ0_checkBoundsBeginEnd_23922 : MethodName := ⟨RJ0, "checkBoundsBeginEnd", "(III)V"⟩
def RJ1 : String := "java/lang/StringLatin1"
abbrev cJ1_charAt_3b067 : ByteArray := prog_13_method_2_code
def yJ1_charAt_3b067 : MethodName := ⟨RJ1, "charAt", "([BI)C"⟩
abbrev cJ1_canEncode_9a6ad : ByteArray := prog_13_method_4_code
def yJ1_canEncode_9a6ad : MethodName := ⟨RJ1, "canEncode", "(I)Z"⟩
abbrev cJ1_indexOf_4cfef : ByteArray := prog_13_method_22_code
def yJ1_indexOf_4cfef : MethodName := ⟨RJ1, "indexOf", "([BIII)I"⟩
abbrev cJ1_indexOfChar_4cfef : ByteArray := prog_13_method_23_code
def yJ1_indexOfChar_4cfef : MethodName := ⟨RJ1, "indexOfChar", "([BIII)I"⟩
def RJ2 : String := "java/lang/StringUTF16"
abbrev cJ2_getChar_3b067 : ByteArray := prog_14_method_5_code
def yJ2_getChar_3b067 : MethodName := ⟨RJ2, "getChar", "([BI)C"⟩
abbrev cJ2_length_9d52b : ByteArray := prog_14_method_6_code
def yJ2_length_9d52b : MethodName := ⟨RJ2, "length", "([B)I"⟩
abbrev cJ2_indexOf_4cfef : ByteArray := prog_14_method_40_code
def yJ2_indexOf_4cfef : MethodName := ⟨RJ2, "indexOf", "([BIII)I"⟩
abbrev cJ2_indexOfChar_4cfef : ByteArray := prog_14_method_47_code
def yJ2_indexOfChar_4cfef : MethodName := ⟨RJ2, "indexOfChar", "([BIII)I"⟩
abbrev cJ2_indexOfCharUnsafe_4cfef : ByteArray := prog_14_method_48_code
def yJ2_indexOfCharUnsafe_4cfef : MethodName := ⟨RJ2, "indexOfCharUnsafe", "([BIII)I"⟩
abbrev cJ2_indexOfSupplementary_4cfef : ByteArray := prog_14_method_49_code
def yJ2_indexOfSupplementary_4cfef : MethodName := ⟨RJ2, "indexOfSupplementary", "([BIII)I"⟩
abbrev cJ2_charAt_3b067 : ByteArray := prog_14_method_83_code
def yJ2_charAt_3b067 : MethodName := ⟨RJ2, "charAt", "([BI)C"⟩
abbrev cJ2_checkIndex_2214a : ByteArray := prog_14_method_91_code
def yJ2_checkIndex_2214a : MethodName := ⟨RJ2, "checkIndex", "(I[B)V"⟩
abbrev cJ2_checkBoundsBeginEnd_d044e : ByteArray := prog_14_method_93_code
def yJ2_checkBoundsBeginEnd_d044e : MethodName := ⟨RJ2, "checkBoundsBeginEnd", "(II[B)V"⟩
def RJ10 : String := "java/lang/System"
def RJ7 : String := "java/util/Arrays"
abbrev cJ7_fill_d0a16 : ByteArray := prog_16_method_101_code
def yJ7_fill_d0a16 : MethodName := ⟨RJ7, "fill", "([JJ)V"⟩
abbrev cJ7_fill_53178 : ByteArray := prog_16_method_103_code
def yJ7_fill_53178 : MethodName := ⟨RJ7, "fill", "([II)V"⟩
def RJ3 : String := "jdk/internal/util/Preconditions"
abbrev cJ3_checkIndex_8e157 : ByteArray := prog_17_method_11_code
def yJ3_checkIndex_8e157 : MethodName := ⟨RJ3, "checkIndex", "(IILjava/util/function/BiFunction;)I"⟩
abbrev cJ3_checkFromToIndex_8c36e : ByteArray := prog_17_method_12_code
def yJ3_checkFromToIndex_8c36e : MethodName := ⟨RJ3, "checkFromToIndex", "(IIILjava/util/function/BiFunction;)I"⟩
def RL : String := "GlassesOfRueLaw"
abbrev cL_law : ByteArray := code
def yL_law : MethodName := ⟨RL, "law", "([I)Z"⟩
end
section
theorem dX0_init_0 : decode cX0_init 0 = .ok (.aload_n 0, 1) := by decide +kernel
theorem dX0_init_1 : decode cX0_init 1 = .ok (.invokespecial 3, 3) := by decide +kernel
theorem dX0_init_4 : decode cX0_init 4 = .ok (.aload_n 0, 1) := by decide +kernel
theorem dX0_init_5 : decode cX0_init 5 = .ok (.bipush 40, 2) := by decide +kernel
theorem dX0_init_7 : decode cX0_init 7 = .ok (.newarray .int, 2) := by decide +kernel
theorem dX0_init_9 : decode cX0_init 9 = .ok (.putfield 9, 3) := by decide +kernel
theorem dX0_init_12 : decode cX0_init 12 = .ok (.aload_n 0, 1) := by decide +kernel
theorem dX0_init_13 : decode cX0_init 13 = .ok (.iconst (-1), 1) := by decide +kernel
theorem dX0_init_14 : decode cX0_init 14 = .ok (.putfield 15, 3) := by decide +kernel
theorem dX0_init_17 : decode cX0_init 17 = .ok (.return_, 1) := by decide +kernel
theorem dX0_become_0 : decode cX0_become 0 = .ok (.aload_n 0, 1) := by decide +kernel
theorem dX0_become_1 : decode cX0_become 1 = .ok (.iload_n 1, 1) := by decide +kernel
theorem dX0_become_2 : decode cX0_become 2 = .ok (.putfield 15, 3) := by decide +kernel
theorem dX0_become_5 : decode cX0_become 5 = .ok (.aload_n 0, 1) := by decide +kernel
theorem dX0_become_6 : decode cX0_become 6 = .ok (.iload_n 2, 1) := by decide +kernel
theorem dX0_become_7 : decode cX0_become 7 = .ok (.putfield 19, 3) := by decide +kernel
theorem dX0_become_10 : decode cX0_become 10 = .ok (.aload_n 0, 1) := by decide +kernel
theorem dX0_become_11 : decode cX0_become 11 = .ok (.getfield 9, 3) := by decide +kernel
theorem dX0_become_14 : decode cX0_become 14 = .ok (.iconst 0, 1) := by decide +kernel
theorem dX0_become_15 : decode cX0_become 15 = .ok (.invokestatic 22, 3) := by decide +kernel
theorem dX0_become_18 : decode cX0_become 18 = .ok (.return_, 1) := by decide +kernel
theorem dX0_put_0 : decode cX0_put 0 = .ok (.iload_n 1, 1) := by decide +kernel
theorem dX0_put_1 : decode cX0_put 1 = .ok (.ifCond .lt 43, 3) := by decide +kernel
theorem dX0_put_4 : decode cX0_put 4 = .ok (.iload_n 1, 1) := by decide +kernel
theorem dX0_put_5 : decode cX0_put 5 = .ok (.aload_n 0, 1) := by decide +kernel
theorem dX0_put_6 : decode cX0_put 6 = .ok (.getfield 19, 3) := by decide +kernel
theorem dX0_put_9 : decode cX0_put 9 = .ok (.if_icmp .ge 35, 3) := by decide +kernel
theorem dX0_put_12 : decode cX0_put 12 = .ok (.aload_n 0, 1) := by decide +kernel
theorem dX0_put_13 : decode cX0_put 13 = .ok (.getfield 9, 3) := by decide +kernel
theorem dX0_put_16 : decode cX0_put 16 = .ok (.iload_n 1, 1) := by decide +kernel
theorem dX0_put_17 : decode cX0_put 17 = .ok (.aload_n 0, 1) := by decide +kernel
theorem dX0_put_18 : decode cX0_put 18 = .ok (.getfield 15, 3) := by decide +kernel
theorem dX0_put_21 : decode cX0_put 21 = .ok (.ifCond .ne 8, 3) := by decide +kernel
theorem dX0_put_24 : decode cX0_put 24 = .ok (.iload_n 2, 1) := by decide +kernel
theorem dX0_put_25 : decode cX0_put 25 = .ok (.i2b, 1) := by decide +kernel
theorem dX0_put_26 : decode cX0_put 26 = .ok (.goto 17, 3) := by decide +kernel
theorem dX0_put_29 : decode cX0_put 29 = .ok (.aload_n 0, 1) := by decide +kernel
theorem dX0_put_30 : decode cX0_put 30 = .ok (.getfield 15, 3) := by decide +kernel
theorem dX0_put_33 : decode cX0_put 33 = .ok (.iconst 1, 1) := by decide +kernel
theorem dX0_put_34 : decode cX0_put 34 = .ok (.if_icmp .ne 8, 3) := by decide +kernel
theorem dX0_put_37 : decode cX0_put 37 = .ok (.iload_n 2, 1) := by decide +kernel
theorem dX0_put_38 : decode cX0_put 38 = .ok (.i2s, 1) := by decide +kernel
theorem dX0_put_39 : decode cX0_put 39 = .ok (.goto 4, 3) := by decide +kernel
theorem dX0_put_42 : decode cX0_put 42 = .ok (.iload_n 2, 1) := by decide +kernel
theorem dX0_put_43 : decode cX0_put 43 = .ok (.iastore, 1) := by decide +kernel
theorem dX0_put_44 : decode cX0_put 44 = .ok (.return_, 1) := by decide +kernel
theorem dX0_at_0 : decode cX0_at 0 = .ok (.iload_n 1, 1) := by decide +kernel
theorem dX0_at_1 : decode cX0_at 1 = .ok (.ifCond .lt 20, 3) := by decide +kernel
theorem dX0_at_4 : decode cX0_at 4 = .ok (.iload_n 1, 1) := by decide +kernel
theorem dX0_at_5 : decode cX0_at 5 = .ok (.aload_n 0, 1) := by decide +kernel
theorem dX0_at_6 : decode cX0_at 6 = .ok (.getfield 19, 3) := by decide +kernel
theorem dX0_at_9 : decode cX0_at 9 = .ok (.if_icmp .ge 12, 3) := by decide +kernel
theorem dX0_at_12 : decode cX0_at 12 = .ok (.aload_n 0, 1) := by decide +kernel
theorem dX0_at_13 : decode cX0_at 13 = .ok (.getfield 9, 3) := by decide +kernel
theorem dX0_at_16 : decode cX0_at 16 = .ok (.iload_n 1, 1) := by decide +kernel
theorem dX0_at_17 : decode cX0_at 17 = .ok (.iaload, 1) := by decide +kernel
theorem dX0_at_18 : decode cX0_at 18 = .ok (.goto 4, 3) := by decide +kernel
theorem dX0_at_21 : decode cX0_at 21 = .ok (.iconst 0, 1) := by decide +kernel
theorem dX0_at_22 : decode cX0_at 22 = .ok (.ireturn, 1) := by decide +kernel
theorem dX0_holds_0 : decode cX0_holds 0 = .ok (.iload_n 1, 1) := by decide +kernel
theorem dX0_holds_1 : decode cX0_holds 1 = .ok (.ifCond .lt 29, 3) := by decide +kernel
theorem dX0_holds_4 : decode cX0_holds 4 = .ok (.iload_n 2, 1) := by decide +kernel
theorem dX0_holds_5 : decode cX0_holds 5 = .ok (.ifCond .lt 25, 3) := by decide +kernel
theorem dX0_holds_8 : decode cX0_holds 8 = .ok (.iload_n 1, 1) := by decide +kernel
theorem dX0_holds_9 : decode cX0_holds 9 = .ok (.aload_n 0, 1) := by decide +kernel
theorem dX0_holds_10 : decode cX0_holds 10 = .ok (.getfield 19, 3) := by decide +kernel
theorem dX0_holds_13 : decode cX0_holds 13 = .ok (.if_icmp .gt 17, 3) := by decide +kernel
theorem dX0_holds_16 : decode cX0_holds 16 = .ok (.iload_n 2, 1) := by decide +kernel
theorem dX0_holds_17 : decode cX0_holds 17 = .ok (.aload_n 0, 1) := by decide +kernel
theorem dX0_holds_18 : decode cX0_holds 18 = .ok (.getfield 19, 3) := by decide +kernel
theorem dX0_holds_21 : decode cX0_holds 21 = .ok (.iload_n 1, 1) := by decide +kernel
theorem dX0_holds_22 : decode cX0_holds 22 = .ok (.isub, 1) := by decide +kernel
theorem dX0_holds_23 : decode cX0_holds 23 = .ok (.if_icmp .gt 7, 3) := by decide +kernel
theorem dX0_holds_26 : decode cX0_holds 26 = .ok (.iconst 1, 1) := by decide +kernel
theorem dX0_holds_27 : decode cX0_holds 27 = .ok (.goto 4, 3) := by decide +kernel
theorem dX0_holds_30 : decode cX0_holds 30 = .ok (.iconst 0, 1) := by decide +kernel
theorem dX0_holds_31 : decode cX0_holds 31 = .ok (.ireturn, 1) := by decide +kernel
theorem dX1_init_0 : decode cX1_init 0 = .ok (.aload_n 0, 1) := by decide +kernel
theorem dX1_init_1 : decode cX1_init 1 = .ok (.invokespecial 3, 3) := by decide +kernel
theorem dX1_init_4 : decode cX1_init 4 = .ok (.aload_n 0, 1) := by decide +kernel
theorem dX1_init_5 : decode cX1_init 5 = .ok (.sipush 10000, 3) := by decide +kernel
theorem dX1_init_8 : decode cX1_init 8 = .ok (.newarray .long, 2) := by decide +kernel
theorem dX1_init_10 : decode cX1_init 10 = .ok (.putfield 11, 3) := by decide +kernel
theorem dX1_init_13 : decode cX1_init 13 = .ok (.aload_n 0, 1) := by decide +kernel
theorem dX1_init_14 : decode cX1_init 14 = .ok (.bipush 31, 2) := by decide +kernel
theorem dX1_init_16 : decode cX1_init 16 = .ok (.newarray .long, 2) := by decide +kernel
theorem dX1_init_18 : decode cX1_init 18 = .ok (.putfield 15, 3) := by decide +kernel
theorem dX1_init_21 : decode cX1_init 21 = .ok (.aload_n 0, 1) := by decide +kernel
theorem dX1_init_22 : decode cX1_init 22 = .ok (.sipush 1000, 3) := by decide +kernel
theorem dX1_init_25 : decode cX1_init 25 = .ok (.newarray .int, 2) := by decide +kernel
theorem dX1_init_27 : decode cX1_init 27 = .ok (.putfield 18, 3) := by decide +kernel
theorem dX1_init_30 : decode cX1_init 30 = .ok (.aload_n 0, 1) := by decide +kernel
theorem dX1_init_31 : decode cX1_init 31 = .ok (.iconst (-1), 1) := by decide +kernel
theorem dX1_init_32 : decode cX1_init 32 = .ok (.putfield 22, 3) := by decide +kernel
theorem dX1_init_35 : decode cX1_init 35 = .ok (.return_, 1) := by decide +kernel
theorem dX1_timesOf_0 : decode cX1_timesOf 0 = .ok (.iload_n 1, 1) := by decide +kernel
theorem dX1_timesOf_1 : decode cX1_timesOf 1 = .ok (.bipush 100, 2) := by decide +kernel
theorem dX1_timesOf_3 : decode cX1_timesOf 3 = .ok (.imul, 1) := by decide +kernel
theorem dX1_timesOf_4 : decode cX1_timesOf 4 = .ok (.iload_n 2, 1) := by decide +kernel
theorem dX1_timesOf_5 : decode cX1_timesOf 5 = .ok (.bipush 10, 2) := by decide +kernel
theorem dX1_timesOf_7 : decode cX1_timesOf 7 = .ok (.imul, 1) := by decide +kernel
theorem dX1_timesOf_8 : decode cX1_timesOf 8 = .ok (.iadd, 1) := by decide +kernel
theorem dX1_timesOf_9 : decode cX1_timesOf 9 = .ok (.iload_n 3, 1) := by decide +kernel
theorem dX1_timesOf_10 : decode cX1_timesOf 10 = .ok (.iadd, 1) := by decide +kernel
theorem dX1_timesOf_11 : decode cX1_timesOf 11 = .ok (.istore 4, 2) := by decide +kernel
theorem dX1_timesOf_13 : decode cX1_timesOf 13 = .ok (.iload 4, 2) := by decide +kernel
theorem dX1_timesOf_15 : decode cX1_timesOf 15 = .ok (.ifCond .lt 11, 3) := by decide +kernel
theorem dX1_timesOf_18 : decode cX1_timesOf 18 = .ok (.iload 4, 2) := by decide +kernel
theorem dX1_timesOf_20 : decode cX1_timesOf 20 = .ok (.sipush 1000, 3) := by decide +kernel
theorem dX1_timesOf_23 : decode cX1_timesOf 23 = .ok (.if_icmp .lt 5, 3) := by decide +kernel
theorem dX1_timesOf_26 : decode cX1_timesOf 26 = .ok (.iconst 0, 1) := by decide +kernel
theorem dX1_timesOf_27 : decode cX1_timesOf 27 = .ok (.ireturn, 1) := by decide +kernel
theorem dX1_timesOf_28 : decode cX1_timesOf 28 = .ok (.aload_n 0, 1) := by decide +kernel
theorem dX1_timesOf_29 : decode cX1_timesOf 29 = .ok (.getfield 18, 3) := by decide +kernel
theorem dX1_timesOf_32 : decode cX1_timesOf 32 = .ok (.iload 4, 2) := by decide +kernel
theorem dX1_timesOf_34 : decode cX1_timesOf 34 = .ok (.iaload, 1) := by decide +kernel
theorem dX1_timesOf_35 : decode cX1_timesOf 35 = .ok (.ifCond .ne 23, 3) := by decide +kernel
theorem dX1_timesOf_38 : decode cX1_timesOf 38 = .ok (.aload_n 0, 1) := by decide +kernel
theorem dX1_timesOf_39 : decode cX1_timesOf 39 = .ok (.iload_n 1, 1) := by decide +kernel
theorem dX1_timesOf_40 : decode cX1_timesOf 40 = .ok (.iload_n 2, 1) := by decide +kernel
theorem dX1_timesOf_41 : decode cX1_timesOf 41 = .ok (.iload_n 3, 1) := by decide +kernel
theorem dX1_timesOf_42 : decode cX1_timesOf 42 = .ok (.invokevirtual 26, 3) := by decide +kernel
theorem dX1_timesOf_45 : decode cX1_timesOf 45 = .ok (.aload_n 0, 1) := by decide +kernel
theorem dX1_timesOf_46 : decode cX1_timesOf 46 = .ok (.getfield 18, 3) := by decide +kernel
theorem dX1_timesOf_49 : decode cX1_timesOf 49 = .ok (.iload 4, 2) := by decide +kernel
theorem dX1_timesOf_51 : decode cX1_timesOf 51 = .ok (.iconst 1, 1) := by decide +kernel
theorem dX1_timesOf_52 : decode cX1_timesOf 52 = .ok (.aload_n 0, 1) := by decide +kernel
theorem dX1_timesOf_53 : decode cX1_timesOf 53 = .ok (.invokevirtual 30, 3) := by decide +kernel
theorem dX1_timesOf_56 : decode cX1_timesOf 56 = .ok (.ior, 1) := by decide +kernel
theorem dX1_timesOf_57 : decode cX1_timesOf 57 = .ok (.iastore, 1) := by decide +kernel
theorem dX1_timesOf_58 : decode cX1_timesOf 58 = .ok (.aload_n 0, 1) := by decide +kernel
theorem dX1_timesOf_59 : decode cX1_timesOf 59 = .ok (.getfield 18, 3) := by decide +kernel
theorem dX1_timesOf_62 : decode cX1_timesOf 62 = .ok (.iload 4, 2) := by decide +kernel
theorem dX1_timesOf_64 : decode cX1_timesOf 64 = .ok (.iaload, 1) := by decide +kernel
theorem dX1_timesOf_65 : decode cX1_timesOf 65 = .ok (.bipush (-2), 2) := by decide +kernel
theorem dX1_timesOf_67 : decode cX1_timesOf 67 = .ok (.iand, 1) := by decide +kernel
theorem dX1_timesOf_68 : decode cX1_timesOf 68 = .ok (.ireturn, 1) := by decide +kernel
theorem dX1_timesLaid_0 : decode cX1_timesLaid 0 = .ok (.iconst 0, 1) := by decide +kernel
theorem dX1_timesLaid_1 : decode cX1_timesLaid 1 = .ok (.istore_n 1, 1) := by decide +kernel
theorem dX1_timesLaid_2 : decode cX1_timesLaid 2 = .ok (.iconst 1, 1) := by decide +kernel
theorem dX1_timesLaid_3 : decode cX1_timesLaid 3 = .ok (.istore_n 2, 1) := by decide +kernel
theorem dX1_timesLaid_4 : decode cX1_timesLaid 4 = .ok (.iload_n 2, 1) := by decide +kernel
theorem dX1_timesLaid_5 : decode cX1_timesLaid 5 = .ok (.bipush 30, 2) := by decide +kernel
theorem dX1_timesLaid_7 : decode cX1_timesLaid 7 = .ok (.if_icmp .gt 28, 3) := by decide +kernel
theorem dX1_timesLaid_10 : decode cX1_timesLaid 10 = .ok (.aload_n 0, 1) := by decide +kernel
theorem dX1_timesLaid_11 : decode cX1_timesLaid 11 = .ok (.getfield 15, 3) := by decide +kernel
theorem dX1_timesLaid_14 : decode cX1_timesLaid 14 = .ok (.iload_n 2, 1) := by decide +kernel
theorem dX1_timesLaid_15 : decode cX1_timesLaid 15 = .ok (.laload, 1) := by decide +kernel
theorem dX1_timesLaid_16 : decode cX1_timesLaid 16 = .ok (.ldc2_w 34, 3) := by decide +kernel
theorem dX1_timesLaid_19 : decode cX1_timesLaid 19 = .ok (.lcmp, 1) := by decide +kernel
theorem dX1_timesLaid_20 : decode cX1_timesLaid 20 = .ok (.ifCond .eq 9, 3) := by decide +kernel
theorem dX1_timesLaid_23 : decode cX1_timesLaid 23 = .ok (.iload_n 1, 1) := by decide +kernel
theorem dX1_timesLaid_24 : decode cX1_timesLaid 24 = .ok (.iconst 1, 1) := by decide +kernel
theorem dX1_timesLaid_25 : decode cX1_timesLaid 25 = .ok (.iload_n 2, 1) := by decide +kernel
theorem dX1_timesLaid_26 : decode cX1_timesLaid 26 = .ok (.ishl, 1) := by decide +kernel
theorem dX1_timesLaid_27 : decode cX1_timesLaid 27 = .ok (.ior, 1) := by decide +kernel
theorem dX1_timesLaid_28 : decode cX1_timesLaid 28 = .ok (.istore_n 1, 1) := by decide +kernel
theorem dX1_timesLaid_29 : decode cX1_timesLaid 29 = .ok (.iinc 2 1, 3) := by decide +kernel
theorem dX1_timesLaid_32 : decode cX1_timesLaid 32 = .ok (.goto (-28), 3) := by decide +kernel
theorem dX1_timesLaid_35 : decode cX1_timesLaid 35 = .ok (.iload_n 1, 1) := by decide +kernel
theorem dX1_timesLaid_36 : decode cX1_timesLaid 36 = .ok (.ireturn, 1) := by decide +kernel
theorem dX1_lay_0 : decode cX1_lay 0 = .ok (.iload_n 1, 1) := by decide +kernel
theorem dX1_lay_1 : decode cX1_lay 1 = .ok (.bipush 100, 2) := by decide +kernel
theorem dX1_lay_3 : decode cX1_lay 3 = .ok (.imul, 1) := by decide +kernel
theorem dX1_lay_4 : decode cX1_lay 4 = .ok (.iload_n 2, 1) := by decide +kernel
theorem dX1_lay_5 : decode cX1_lay 5 = .ok (.bipush 10, 2) := by decide +kernel
theorem dX1_lay_7 : decode cX1_lay 7 = .ok (.imul, 1) := by decide +kernel
theorem dX1_lay_8 : decode cX1_lay 8 = .ok (.iadd, 1) := by decide +kernel
theorem dX1_lay_9 : decode cX1_lay 9 = .ok (.iload_n 3, 1) := by decide +kernel
theorem dX1_lay_10 : decode cX1_lay 10 = .ok (.iadd, 1) := by decide +kernel
theorem dX1_lay_11 : decode cX1_lay 11 = .ok (.istore 4, 2) := by decide +kernel
theorem dX1_lay_13 : decode cX1_lay 13 = .ok (.iload 4, 2) := by decide +kernel
theorem dX1_lay_15 : decode cX1_lay 15 = .ok (.aload_n 0, 1) := by decide +kernel
theorem dX1_lay_16 : decode cX1_lay 16 = .ok (.getfield 22, 3) := by decide +kernel
theorem dX1_lay_19 : decode cX1_lay 19 = .ok (.if_icmp .ne 4, 3) := by decide +kernel
theorem dX1_lay_22 : decode cX1_lay 22 = .ok (.return_, 1) := by decide +kernel
theorem dX1_lay_23 : decode cX1_lay 23 = .ok (.aload_n 0, 1) := by decide +kernel
theorem dX1_lay_24 : decode cX1_lay 24 = .ok (.iload 4, 2) := by decide +kernel
theorem dX1_lay_26 : decode cX1_lay 26 = .ok (.putfield 22, 3) := by decide +kernel
theorem dX1_lay_29 : decode cX1_lay 29 = .ok (.aload_n 0, 1) := by decide +kernel
theorem dX1_lay_30 : decode cX1_lay 30 = .ok (.iload_n 1, 1) := by decide +kernel
theorem dX1_lay_31 : decode cX1_lay 31 = .ok (.putfield 36, 3) := by decide +kernel
theorem dX1_lay_34 : decode cX1_lay 34 = .ok (.aload_n 0, 1) := by decide +kernel
theorem dX1_lay_35 : decode cX1_lay 35 = .ok (.iload_n 2, 1) := by decide +kernel
theorem dX1_lay_36 : decode cX1_lay 36 = .ok (.putfield 39, 3) := by decide +kernel
theorem dX1_lay_39 : decode cX1_lay 39 = .ok (.aload_n 0, 1) := by decide +kernel
theorem dX1_lay_40 : decode cX1_lay 40 = .ok (.iload_n 3, 1) := by decide +kernel
theorem dX1_lay_41 : decode cX1_lay 41 = .ok (.putfield 42, 3) := by decide +kernel
theorem dX1_lay_44 : decode cX1_lay 44 = .ok (.aload_n 0, 1) := by decide +kernel
theorem dX1_lay_45 : decode cX1_lay 45 = .ok (.getfield 11, 3) := by decide +kernel
theorem dX1_lay_48 : decode cX1_lay 48 = .ok (.ldc2_w 34, 3) := by decide +kernel
theorem dX1_lay_51 : decode cX1_lay 51 = .ok (.invokestatic 45, 3) := by decide +kernel
theorem dX1_lay_54 : decode cX1_lay 54 = .ok (.aload_n 0, 1) := by decide +kernel
theorem dX1_lay_55 : decode cX1_lay 55 = .ok (.getfield 11, 3) := by decide +kernel
theorem dX1_lay_58 : decode cX1_lay 58 = .ok (.iconst 0, 1) := by decide +kernel
theorem dX1_lay_59 : decode cX1_lay 59 = .ok (.lconst 0, 1) := by decide +kernel
theorem dX1_lay_60 : decode cX1_lay 60 = .ok (.lastore, 1) := by decide +kernel
theorem dX1_lay_61 : decode cX1_lay 61 = .ok (.iconst 0, 1) := by decide +kernel
theorem dX1_lay_62 : decode cX1_lay 62 = .ok (.istore 5, 2) := by decide +kernel
theorem dX1_lay_64 : decode cX1_lay 64 = .ok (.iload 5, 2) := by decide +kernel
theorem dX1_lay_66 : decode cX1_lay 66 = .ok (.bipush 30, 2) := by decide +kernel
theorem dX1_lay_68 : decode cX1_lay 68 = .ok (.if_icmp .gt 22, 3) := by decide +kernel
theorem dX1_lay_71 : decode cX1_lay 71 = .ok (.aload_n 0, 1) := by decide +kernel
theorem dX1_lay_72 : decode cX1_lay 72 = .ok (.getfield 15, 3) := by decide +kernel
theorem dX1_lay_75 : decode cX1_lay 75 = .ok (.iload 5, 2) := by decide +kernel
theorem dX1_lay_77 : decode cX1_lay 77 = .ok (.aload_n 0, 1) := by decide +kernel
theorem dX1_lay_78 : decode cX1_lay 78 = .ok (.iload 5, 2) := by decide +kernel
theorem dX1_lay_80 : decode cX1_lay 80 = .ok (.invokevirtual 51, 3) := by decide +kernel
theorem dX1_lay_83 : decode cX1_lay 83 = .ok (.lastore, 1) := by decide +kernel
theorem dX1_lay_84 : decode cX1_lay 84 = .ok (.iinc 5 1, 3) := by decide +kernel
theorem dX1_lay_87 : decode cX1_lay 87 = .ok (.goto (-23), 3) := by decide +kernel
theorem dX1_lay_90 : decode cX1_lay 90 = .ok (.return_, 1) := by decide +kernel
theorem dX1_turnsTill_0 : decode cX1_turnsTill 0 = .ok (.aload_n 0, 1) := by decide +kernel
theorem dX1_turnsTill_1 : decode cX1_turnsTill 1 = .ok (.getfield 15, 3) := by decide +kernel
theorem dX1_turnsTill_4 : decode cX1_turnsTill 4 = .ok (.iload_n 1, 1) := by decide +kernel
theorem dX1_turnsTill_5 : decode cX1_turnsTill 5 = .ok (.laload, 1) := by decide +kernel
theorem dX1_turnsTill_6 : decode cX1_turnsTill 6 = .ok (.lstore_n 2, 1) := by decide +kernel
theorem dX1_turnsTill_7 : decode cX1_turnsTill 7 = .ok (.lload_n 2, 1) := by decide +kernel
theorem dX1_turnsTill_8 : decode cX1_turnsTill 8 = .ok (.ldc2_w 34, 3) := by decide +kernel
theorem dX1_turnsTill_11 : decode cX1_turnsTill 11 = .ok (.lcmp, 1) := by decide +kernel
theorem dX1_turnsTill_12 : decode cX1_turnsTill 12 = .ok (.ifCond .ne 7, 3) := by decide +kernel
theorem dX1_turnsTill_15 : decode cX1_turnsTill 15 = .ok (.iconst (-1), 1) := by decide +kernel
theorem dX1_turnsTill_16 : decode cX1_turnsTill 16 = .ok (.goto 9, 3) := by decide +kernel
theorem dX1_turnsTill_19 : decode cX1_turnsTill 19 = .ok (.lload_n 2, 1) := by decide +kernel
theorem dX1_turnsTill_20 : decode cX1_turnsTill 20 = .ok (.ldc2_w 55, 3) := by decide +kernel
theorem dX1_turnsTill_23 : decode cX1_turnsTill 23 = .ok (.ldiv, 1) := by decide +kernel
theorem dX1_turnsTill_24 : decode cX1_turnsTill 24 = .ok (.l2i, 1) := by decide +kernel
theorem dX1_turnsTill_25 : decode cX1_turnsTill 25 = .ok (.ireturn, 1) := by decide +kernel
theorem dX1_wayTill_0 : decode cX1_wayTill 0 = .ok (.aload_n 0, 1) := by decide +kernel
theorem dX1_wayTill_1 : decode cX1_wayTill 1 = .ok (.getfield 15, 3) := by decide +kernel
theorem dX1_wayTill_4 : decode cX1_wayTill 4 = .ok (.iload_n 1, 1) := by decide +kernel
theorem dX1_wayTill_5 : decode cX1_wayTill 5 = .ok (.laload, 1) := by decide +kernel
theorem dX1_wayTill_6 : decode cX1_wayTill 6 = .ok (.lstore_n 2, 1) := by decide +kernel
theorem dX1_wayTill_7 : decode cX1_wayTill 7 = .ok (.lload_n 2, 1) := by decide +kernel
theorem dX1_wayTill_8 : decode cX1_wayTill 8 = .ok (.ldc2_w 57, 3) := by decide +kernel
theorem dX1_wayTill_11 : decode cX1_wayTill 11 = .ok (.lrem, 1) := by decide +kernel
theorem dX1_wayTill_12 : decode cX1_wayTill 12 = .ok (.l2i, 1) := by decide +kernel
theorem dX1_wayTill_13 : decode cX1_wayTill 13 = .ok (.istore 4, 2) := by decide +kernel
theorem dX1_wayTill_15 : decode cX1_wayTill 15 = .ok (.lload_n 2, 1) := by decide +kernel
theorem dX1_wayTill_16 : decode cX1_wayTill 16 = .ok (.ldc2_w 34, 3) := by decide +kernel
theorem dX1_wayTill_19 : decode cX1_wayTill 19 = .ok (.lcmp, 1) := by decide +kernel
theorem dX1_wayTill_20 : decode cX1_wayTill 20 = .ok (.ifCond .eq 16, 3) := by decide +kernel
theorem dX1_wayTill_23 : decode cX1_wayTill 23 = .ok (.iload 4, 2) := by decide +kernel
theorem dX1_wayTill_25 : decode cX1_wayTill 25 = .ok (.iconst 1, 1) := by decide +kernel
theorem dX1_wayTill_26 : decode cX1_wayTill 26 = .ok (.if_icmp .lt 10, 3) := by decide +kernel
theorem dX1_wayTill_29 : decode cX1_wayTill 29 = .ok (.iload 4, 2) := by decide +kernel
theorem dX1_wayTill_31 : decode cX1_wayTill 31 = .ok (.bipush 9, 2) := by decide +kernel
theorem dX1_wayTill_33 : decode cX1_wayTill 33 = .ok (.if_icmp .le 5, 3) := by decide +kernel
theorem dX1_wayTill_36 : decode cX1_wayTill 36 = .ok (.iconst (-1), 1) := by decide +kernel
theorem dX1_wayTill_37 : decode cX1_wayTill 37 = .ok (.ireturn, 1) := by decide +kernel
theorem dX1_wayTill_38 : decode cX1_wayTill 38 = .ok (.getstatic 59, 3) := by decide +kernel
theorem dX1_wayTill_41 : decode cX1_wayTill 41 = .ok (.iload 4, 2) := by decide +kernel
theorem dX1_wayTill_43 : decode cX1_wayTill 43 = .ok (.iconst 1, 1) := by decide +kernel
theorem dX1_wayTill_44 : decode cX1_wayTill 44 = .ok (.isub, 1) := by decide +kernel
theorem dX1_wayTill_45 : decode cX1_wayTill 45 = .ok (.laload, 1) := by decide +kernel
theorem dX1_wayTill_46 : decode cX1_wayTill 46 = .ok (.lstore 5, 2) := by decide +kernel
theorem dX1_wayTill_48 : decode cX1_wayTill 48 = .ok (.lload 5, 2) := by decide +kernel
theorem dX1_wayTill_50 : decode cX1_wayTill 50 = .ok (.lconst 0, 1) := by decide +kernel
theorem dX1_wayTill_51 : decode cX1_wayTill 51 = .ok (.lcmp, 1) := by decide +kernel
theorem dX1_wayTill_52 : decode cX1_wayTill 52 = .ok (.ifCond .gt 7, 3) := by decide +kernel
theorem dX1_wayTill_55 : decode cX1_wayTill 55 = .ok (.iconst (-1), 1) := by decide +kernel
theorem dX1_wayTill_56 : decode cX1_wayTill 56 = .ok (.goto 12, 3) := by decide +kernel
theorem dX1_wayTill_59 : decode cX1_wayTill 59 = .ok (.lload_n 2, 1) := by decide +kernel
theorem dX1_wayTill_60 : decode cX1_wayTill 60 = .ok (.ldc2_w 55, 3) := by decide +kernel
theorem dX1_wayTill_63 : decode cX1_wayTill 63 = .ok (.lrem, 1) := by decide +kernel
theorem dX1_wayTill_64 : decode cX1_wayTill 64 = .ok (.lload 5, 2) := by decide +kernel
theorem dX1_wayTill_66 : decode cX1_wayTill 66 = .ok (.ldiv, 1) := by decide +kernel
theorem dX1_wayTill_67 : decode cX1_wayTill 67 = .ok (.l2i, 1) := by decide +kernel
theorem dX1_wayTill_68 : decode cX1_wayTill 68 = .ok (.ireturn, 1) := by decide +kernel
theorem dX1_passMinute_0 : decode cX1_passMinute 0 = .ok (.iload_n 1, 1) := by decide +kernel
theorem dX1_passMinute_1 : decode cX1_passMinute 1 = .ok (.bipush 10, 2) := by decide +kernel
theorem dX1_passMinute_3 : decode cX1_passMinute 3 = .ok (.irem, 1) := by decide +kernel
theorem dX1_passMinute_4 : decode cX1_passMinute 4 = .ok (.sipush 1000, 3) := by decide +kernel
theorem dX1_passMinute_7 : decode cX1_passMinute 7 = .ok (.imul, 1) := by decide +kernel
theorem dX1_passMinute_8 : decode cX1_passMinute 8 = .ok (.istore_n 2, 1) := by decide +kernel
theorem dX1_passMinute_9 : decode cX1_passMinute 9 = .ok (.ldc2_w 34, 3) := by decide +kernel
theorem dX1_passMinute_12 : decode cX1_passMinute 12 = .ok (.lstore_n 3, 1) := by decide +kernel
theorem dX1_passMinute_13 : decode cX1_passMinute 13 = .ok (.iconst 0, 1) := by decide +kernel
theorem dX1_passMinute_14 : decode cX1_passMinute 14 = .ok (.istore 5, 2) := by decide +kernel
theorem dX1_passMinute_16 : decode cX1_passMinute 16 = .ok (.iload 5, 2) := by decide +kernel
theorem dX1_passMinute_18 : decode cX1_passMinute 18 = .ok (.sipush 1000, 3) := by decide +kernel
theorem dX1_passMinute_21 : decode cX1_passMinute 21 = .ok (.if_icmp .ge 57, 3) := by decide +kernel
theorem dX1_passMinute_24 : decode cX1_passMinute 24 = .ok (.aload_n 0, 1) := by decide +kernel
theorem dX1_passMinute_25 : decode cX1_passMinute 25 = .ok (.getfield 11, 3) := by decide +kernel
theorem dX1_passMinute_28 : decode cX1_passMinute 28 = .ok (.iload_n 2, 1) := by decide +kernel
theorem dX1_passMinute_29 : decode cX1_passMinute 29 = .ok (.iload 5, 2) := by decide +kernel
theorem dX1_passMinute_31 : decode cX1_passMinute 31 = .ok (.iadd, 1) := by decide +kernel
theorem dX1_passMinute_32 : decode cX1_passMinute 32 = .ok (.laload, 1) := by decide +kernel
theorem dX1_passMinute_33 : decode cX1_passMinute 33 = .ok (.lstore 6, 2) := by decide +kernel
theorem dX1_passMinute_35 : decode cX1_passMinute 35 = .ok (.lload 6, 2) := by decide +kernel
theorem dX1_passMinute_37 : decode cX1_passMinute 37 = .ok (.ldc2_w 34, 3) := by decide +kernel
theorem dX1_passMinute_40 : decode cX1_passMinute 40 = .ok (.lcmp, 1) := by decide +kernel
theorem dX1_passMinute_41 : decode cX1_passMinute 41 = .ok (.ifCond .eq 31, 3) := by decide +kernel
theorem dX1_passMinute_44 : decode cX1_passMinute 44 = .ok (.aload_n 0, 1) := by decide +kernel
theorem dX1_passMinute_45 : decode cX1_passMinute 45 = .ok (.getfield 11, 3) := by decide +kernel
theorem dX1_passMinute_48 : decode cX1_passMinute 48 = .ok (.iload_n 2, 1) := by decide +kernel
theorem dX1_passMinute_49 : decode cX1_passMinute 49 = .ok (.iload 5, 2) := by decide +kernel
theorem dX1_passMinute_51 : decode cX1_passMinute 51 = .ok (.iadd, 1) := by decide +kernel
theorem dX1_passMinute_52 : decode cX1_passMinute 52 = .ok (.ldc2_w 34, 3) := by decide +kernel
theorem dX1_passMinute_55 : decode cX1_passMinute 55 = .ok (.lastore, 1) := by decide +kernel
theorem dX1_passMinute_56 : decode cX1_passMinute 56 = .ok (.lload_n 3, 1) := by decide +kernel
theorem dX1_passMinute_57 : decode cX1_passMinute 57 = .ok (.lload 6, 2) := by decide +kernel
theorem dX1_passMinute_59 : decode cX1_passMinute 59 = .ok (.invokestatic 62, 3) := by decide +kernel
theorem dX1_passMinute_62 : decode cX1_passMinute 62 = .ok (.lstore_n 3, 1) := by decide +kernel
theorem dX1_passMinute_63 : decode cX1_passMinute 63 = .ok (.aload_n 0, 1) := by decide +kernel
theorem dX1_passMinute_64 : decode cX1_passMinute 64 = .ok (.iload_n 1, 1) := by decide +kernel
theorem dX1_passMinute_65 : decode cX1_passMinute 65 = .ok (.iload 5, 2) := by decide +kernel
theorem dX1_passMinute_67 : decode cX1_passMinute 67 = .ok (.lload 6, 2) := by decide +kernel
theorem dX1_passMinute_69 : decode cX1_passMinute 69 = .ok (.invokevirtual 68, 3) := by decide +kernel
theorem dX1_passMinute_72 : decode cX1_passMinute 72 = .ok (.iinc 5 1, 3) := by decide +kernel
theorem dX1_passMinute_75 : decode cX1_passMinute 75 = .ok (.goto (-59), 3) := by decide +kernel
theorem dX1_passMinute_78 : decode cX1_passMinute 78 = .ok (.lload_n 3, 1) := by decide +kernel
theorem dX1_passMinute_79 : decode cX1_passMinute 79 = .ok (.lreturn, 1) := by decide +kernel
theorem dX1_turnSets_0 : decode cX1_turnSets 0 = .ok (.iconst 0, 1) := by decide +kernel
theorem dX1_turnSets_1 : decode cX1_turnSets 1 = .ok (.istore 5, 2) := by decide +kernel
theorem dX1_turnSets_3 : decode cX1_turnSets 3 = .ok (.iload 5, 2) := by decide +kernel
theorem dX1_turnSets_5 : decode cX1_turnSets 5 = .ok (.bipush 8, 2) := by decide +kernel
theorem dX1_turnSets_7 : decode cX1_turnSets 7 = .ok (.if_icmp .ge 169, 3) := by decide +kernel
theorem dX1_turnSets_10 : decode cX1_turnSets 10 = .ok (.iload_n 2, 1) := by decide +kernel
theorem dX1_turnSets_11 : decode cX1_turnSets 11 = .ok (.bipush 100, 2) := by decide +kernel
theorem dX1_turnSets_13 : decode cX1_turnSets 13 = .ok (.idiv, 1) := by decide +kernel
theorem dX1_turnSets_14 : decode cX1_turnSets 14 = .ok (.aload_n 0, 1) := by decide +kernel
theorem dX1_turnSets_15 : decode cX1_turnSets 15 = .ok (.getfield 36, 3) := by decide +kernel
theorem dX1_turnSets_18 : decode cX1_turnSets 18 = .ok (.iload 5, 2) := by decide +kernel
theorem dX1_turnSets_20 : decode cX1_turnSets 20 = .ok (.iconst 1, 1) := by decide +kernel
theorem dX1_turnSets_21 : decode cX1_turnSets 21 = .ok (.iand, 1) := by decide +kernel
theorem dX1_turnSets_22 : decode cX1_turnSets 22 = .ok (.invokestatic 72, 3) := by decide +kernel
theorem dX1_turnSets_25 : decode cX1_turnSets 25 = .ok (.istore 6, 2) := by decide +kernel
theorem dX1_turnSets_27 : decode cX1_turnSets 27 = .ok (.iload_n 2, 1) := by decide +kernel
theorem dX1_turnSets_28 : decode cX1_turnSets 28 = .ok (.bipush 10, 2) := by decide +kernel
theorem dX1_turnSets_30 : decode cX1_turnSets 30 = .ok (.idiv, 1) := by decide +kernel
theorem dX1_turnSets_31 : decode cX1_turnSets 31 = .ok (.bipush 10, 2) := by decide +kernel
theorem dX1_turnSets_33 : decode cX1_turnSets 33 = .ok (.irem, 1) := by decide +kernel
theorem dX1_turnSets_34 : decode cX1_turnSets 34 = .ok (.aload_n 0, 1) := by decide +kernel
theorem dX1_turnSets_35 : decode cX1_turnSets 35 = .ok (.getfield 39, 3) := by decide +kernel
theorem dX1_turnSets_38 : decode cX1_turnSets 38 = .ok (.iload 5, 2) := by decide +kernel
theorem dX1_turnSets_40 : decode cX1_turnSets 40 = .ok (.iconst 2, 1) := by decide +kernel
theorem dX1_turnSets_41 : decode cX1_turnSets 41 = .ok (.iand, 1) := by decide +kernel
theorem dX1_turnSets_42 : decode cX1_turnSets 42 = .ok (.invokestatic 72, 3) := by decide +kernel
theorem dX1_turnSets_45 : decode cX1_turnSets 45 = .ok (.istore 7, 2) := by decide +kernel
theorem dX1_turnSets_47 : decode cX1_turnSets 47 = .ok (.iload_n 2, 1) := by decide +kernel
theorem dX1_turnSets_48 : decode cX1_turnSets 48 = .ok (.bipush 10, 2) := by decide +kernel
theorem dX1_turnSets_50 : decode cX1_turnSets 50 = .ok (.irem, 1) := by decide +kernel
theorem dX1_turnSets_51 : decode cX1_turnSets 51 = .ok (.aload_n 0, 1) := by decide +kernel
theorem dX1_turnSets_52 : decode cX1_turnSets 52 = .ok (.getfield 42, 3) := by decide +kernel
theorem dX1_turnSets_55 : decode cX1_turnSets 55 = .ok (.iload 5, 2) := by decide +kernel
theorem dX1_turnSets_57 : decode cX1_turnSets 57 = .ok (.iconst 4, 1) := by decide +kernel
theorem dX1_turnSets_58 : decode cX1_turnSets 58 = .ok (.iand, 1) := by decide +kernel
theorem dX1_turnSets_59 : decode cX1_turnSets 59 = .ok (.invokestatic 72, 3) := by decide +kernel
theorem dX1_turnSets_62 : decode cX1_turnSets 62 = .ok (.istore 8, 2) := by decide +kernel
theorem dX1_turnSets_64 : decode cX1_turnSets 64 = .ok (.iload 6, 2) := by decide +kernel
theorem dX1_turnSets_66 : decode cX1_turnSets 66 = .ok (.iload 7, 2) := by decide +kernel
theorem dX1_turnSets_68 : decode cX1_turnSets 68 = .ok (.iload 8, 2) := by decide +kernel
theorem dX1_turnSets_70 : decode cX1_turnSets 70 = .ok (.invokestatic 76, 3) := by decide +kernel
theorem dX1_turnSets_73 : decode cX1_turnSets 73 = .ok (.invokestatic 76, 3) := by decide +kernel
theorem dX1_turnSets_76 : decode cX1_turnSets 76 = .ok (.istore 9, 2) := by decide +kernel
theorem dX1_turnSets_78 : decode cX1_turnSets 78 = .ok (.iload_n 1, 1) := by decide +kernel
theorem dX1_turnSets_79 : decode cX1_turnSets 79 = .ok (.iload 9, 2) := by decide +kernel
theorem dX1_turnSets_81 : decode cX1_turnSets 81 = .ok (.iadd, 1) := by decide +kernel
theorem dX1_turnSets_82 : decode cX1_turnSets 82 = .ok (.istore 10, 2) := by decide +kernel
theorem dX1_turnSets_84 : decode cX1_turnSets 84 = .ok (.iload 9, 2) := by decide +kernel
theorem dX1_turnSets_86 : decode cX1_turnSets 86 = .ok (.ifCond .le 84, 3) := by decide +kernel
theorem dX1_turnSets_89 : decode cX1_turnSets 89 = .ok (.iload 10, 2) := by decide +kernel
theorem dX1_turnSets_91 : decode cX1_turnSets 91 = .ok (.bipush 30, 2) := by decide +kernel
theorem dX1_turnSets_93 : decode cX1_turnSets 93 = .ok (.if_icmp .gt 77, 3) := by decide +kernel
theorem dX1_turnSets_96 : decode cX1_turnSets 96 = .ok (.iconst 0, 1) := by decide +kernel
theorem dX1_turnSets_97 : decode cX1_turnSets 97 = .ok (.iload 6, 2) := by decide +kernel
theorem dX1_turnSets_99 : decode cX1_turnSets 99 = .ok (.iload 9, 2) := by decide +kernel
theorem dX1_turnSets_101 : decode cX1_turnSets 101 = .ok (.isub, 1) := by decide +kernel
theorem dX1_turnSets_102 : decode cX1_turnSets 102 = .ok (.invokestatic 80, 3) := by decide +kernel
theorem dX1_turnSets_105 : decode cX1_turnSets 105 = .ok (.bipush 100, 2) := by decide +kernel
theorem dX1_turnSets_107 : decode cX1_turnSets 107 = .ok (.imul, 1) := by decide +kernel
theorem dX1_turnSets_108 : decode cX1_turnSets 108 = .ok (.iconst 0, 1) := by decide +kernel
theorem dX1_turnSets_109 : decode cX1_turnSets 109 = .ok (.iload 7, 2) := by decide +kernel
theorem dX1_turnSets_111 : decode cX1_turnSets 111 = .ok (.iload 9, 2) := by decide +kernel
theorem dX1_turnSets_113 : decode cX1_turnSets 113 = .ok (.isub, 1) := by decide +kernel
theorem dX1_turnSets_114 : decode cX1_turnSets 114 = .ok (.invokestatic 80, 3) := by decide +kernel
theorem dX1_turnSets_117 : decode cX1_turnSets 117 = .ok (.bipush 10, 2) := by decide +kernel
theorem dX1_turnSets_119 : decode cX1_turnSets 119 = .ok (.imul, 1) := by decide +kernel
theorem dX1_turnSets_120 : decode cX1_turnSets 120 = .ok (.iadd, 1) := by decide +kernel
theorem dX1_turnSets_121 : decode cX1_turnSets 121 = .ok (.iconst 0, 1) := by decide +kernel
theorem dX1_turnSets_122 : decode cX1_turnSets 122 = .ok (.iload 8, 2) := by decide +kernel
theorem dX1_turnSets_124 : decode cX1_turnSets 124 = .ok (.iload 9, 2) := by decide +kernel
theorem dX1_turnSets_126 : decode cX1_turnSets 126 = .ok (.isub, 1) := by decide +kernel
theorem dX1_turnSets_127 : decode cX1_turnSets 127 = .ok (.invokestatic 80, 3) := by decide +kernel
theorem dX1_turnSets_130 : decode cX1_turnSets 130 = .ok (.iadd, 1) := by decide +kernel
theorem dX1_turnSets_131 : decode cX1_turnSets 131 = .ok (.istore 11, 2) := by decide +kernel
theorem dX1_turnSets_133 : decode cX1_turnSets 133 = .ok (.iload 10, 2) := by decide +kernel
theorem dX1_turnSets_135 : decode cX1_turnSets 135 = .ok (.bipush 10, 2) := by decide +kernel
theorem dX1_turnSets_137 : decode cX1_turnSets 137 = .ok (.irem, 1) := by decide +kernel
theorem dX1_turnSets_138 : decode cX1_turnSets 138 = .ok (.sipush 1000, 3) := by decide +kernel
theorem dX1_turnSets_141 : decode cX1_turnSets 141 = .ok (.imul, 1) := by decide +kernel
theorem dX1_turnSets_142 : decode cX1_turnSets 142 = .ok (.iload 11, 2) := by decide +kernel
theorem dX1_turnSets_144 : decode cX1_turnSets 144 = .ok (.iadd, 1) := by decide +kernel
theorem dX1_turnSets_145 : decode cX1_turnSets 145 = .ok (.istore 12, 2) := by decide +kernel
theorem dX1_turnSets_147 : decode cX1_turnSets 147 = .ok (.aload_n 0, 1) := by decide +kernel
theorem dX1_turnSets_148 : decode cX1_turnSets 148 = .ok (.getfield 11, 3) := by decide +kernel
theorem dX1_turnSets_151 : decode cX1_turnSets 151 = .ok (.iload 12, 2) := by decide +kernel
theorem dX1_turnSets_153 : decode cX1_turnSets 153 = .ok (.aload_n 0, 1) := by decide +kernel
theorem dX1_turnSets_154 : decode cX1_turnSets 154 = .ok (.getfield 11, 3) := by decide +kernel
theorem dX1_turnSets_157 : decode cX1_turnSets 157 = .ok (.iload 12, 2) := by decide +kernel
theorem dX1_turnSets_159 : decode cX1_turnSets 159 = .ok (.laload, 1) := by decide +kernel
theorem dX1_turnSets_160 : decode cX1_turnSets 160 = .ok (.lload_n 3, 1) := by decide +kernel
theorem dX1_turnSets_161 : decode cX1_turnSets 161 = .ok (.iload 5, 2) := by decide +kernel
theorem dX1_turnSets_163 : decode cX1_turnSets 163 = .ok (.invokestatic 83, 3) := by decide +kernel
theorem dX1_turnSets_166 : decode cX1_turnSets 166 = .ok (.invokestatic 62, 3) := by decide +kernel
theorem dX1_turnSets_169 : decode cX1_turnSets 169 = .ok (.lastore, 1) := by decide +kernel
theorem dX1_turnSets_170 : decode cX1_turnSets 170 = .ok (.iinc 5 1, 3) := by decide +kernel
theorem dX1_turnSets_173 : decode cX1_turnSets 173 = .ok (.goto (-170), 3) := by decide +kernel
theorem dX1_turnSets_176 : decode cX1_turnSets 176 = .ok (.return_, 1) := by decide +kernel
theorem dX1_turned_0 : decode cX1_turned 0 = .ok (.iload_n 2, 1) := by decide +kernel
theorem dX1_turned_1 : decode cX1_turned 1 = .ok (.ifCond .ne 7, 3) := by decide +kernel
theorem dX1_turned_4 : decode cX1_turned 4 = .ok (.iload_n 0, 1) := by decide +kernel
theorem dX1_turned_5 : decode cX1_turned 5 = .ok (.goto 6, 3) := by decide +kernel
theorem dX1_turned_8 : decode cX1_turned 8 = .ok (.iload_n 1, 1) := by decide +kernel
theorem dX1_turned_9 : decode cX1_turned 9 = .ok (.iload_n 0, 1) := by decide +kernel
theorem dX1_turned_10 : decode cX1_turned 10 = .ok (.isub, 1) := by decide +kernel
theorem dX1_turned_11 : decode cX1_turned 11 = .ok (.ireturn, 1) := by decide +kernel
theorem dX1_sooner_0 : decode cX1_sooner 0 = .ok (.iload_n 0, 1) := by decide +kernel
theorem dX1_sooner_1 : decode cX1_sooner 1 = .ok (.ifCond .ne 5, 3) := by decide +kernel
theorem dX1_sooner_4 : decode cX1_sooner 4 = .ok (.iload_n 1, 1) := by decide +kernel
theorem dX1_sooner_5 : decode cX1_sooner 5 = .ok (.ireturn, 1) := by decide +kernel
theorem dX1_sooner_6 : decode cX1_sooner 6 = .ok (.iload_n 1, 1) := by decide +kernel
theorem dX1_sooner_7 : decode cX1_sooner 7 = .ok (.ifCond .ne 7, 3) := by decide +kernel
theorem dX1_sooner_10 : decode cX1_sooner 10 = .ok (.iload_n 0, 1) := by decide +kernel
theorem dX1_sooner_11 : decode cX1_sooner 11 = .ok (.goto 8, 3) := by decide +kernel
theorem dX1_sooner_14 : decode cX1_sooner 14 = .ok (.iload_n 0, 1) := by decide +kernel
theorem dX1_sooner_15 : decode cX1_sooner 15 = .ok (.iload_n 1, 1) := by decide +kernel
theorem dX1_sooner_16 : decode cX1_sooner 16 = .ok (.invokestatic 87, 3) := by decide +kernel
theorem dX1_sooner_19 : decode cX1_sooner 19 = .ok (.ireturn, 1) := by decide +kernel
theorem dX1_withSet_0 : decode cX1_withSet 0 = .ok (.lload_n 0, 1) := by decide +kernel
theorem dX1_withSet_1 : decode cX1_withSet 1 = .ok (.ldc2_w 57, 3) := by decide +kernel
theorem dX1_withSet_4 : decode cX1_withSet 4 = .ok (.lrem, 1) := by decide +kernel
theorem dX1_withSet_5 : decode cX1_withSet 5 = .ok (.l2i, 1) := by decide +kernel
theorem dX1_withSet_6 : decode cX1_withSet 6 = .ok (.istore_n 3, 1) := by decide +kernel
theorem dX1_withSet_7 : decode cX1_withSet 7 = .ok (.lload_n 0, 1) := by decide +kernel
theorem dX1_withSet_8 : decode cX1_withSet 8 = .ok (.iload_n 2, 1) := by decide +kernel
theorem dX1_withSet_9 : decode cX1_withSet 9 = .ok (.invokestatic 89, 3) := by decide +kernel
theorem dX1_withSet_12 : decode cX1_withSet 12 = .ok (.i2l, 1) := by decide +kernel
theorem dX1_withSet_13 : decode cX1_withSet 13 = .ok (.ldc2_w 55, 3) := by decide +kernel
theorem dX1_withSet_16 : decode cX1_withSet 16 = .ok (.lmul, 1) := by decide +kernel
theorem dX1_withSet_17 : decode cX1_withSet 17 = .ok (.ladd, 1) := by decide +kernel
theorem dX1_withSet_18 : decode cX1_withSet 18 = .ok (.lconst 1, 1) := by decide +kernel
theorem dX1_withSet_19 : decode cX1_withSet 19 = .ok (.ladd, 1) := by decide +kernel
theorem dX1_withSet_20 : decode cX1_withSet 20 = .ok (.lstore 4, 2) := by decide +kernel
theorem dX1_withSet_22 : decode cX1_withSet 22 = .ok (.iload_n 3, 1) := by decide +kernel
theorem dX1_withSet_23 : decode cX1_withSet 23 = .ok (.ifCond .lt 25, 3) := by decide +kernel
theorem dX1_withSet_26 : decode cX1_withSet 26 = .ok (.iload_n 3, 1) := by decide +kernel
theorem dX1_withSet_27 : decode cX1_withSet 27 = .ok (.bipush 9, 2) := by decide +kernel
theorem dX1_withSet_29 : decode cX1_withSet 29 = .ok (.if_icmp .ge 19, 3) := by decide +kernel
theorem dX1_withSet_32 : decode cX1_withSet 32 = .ok (.lload 4, 2) := by decide +kernel
theorem dX1_withSet_34 : decode cX1_withSet 34 = .ok (.iload_n 2, 1) := by decide +kernel
theorem dX1_withSet_35 : decode cX1_withSet 35 = .ok (.iconst 1, 1) := by decide +kernel
theorem dX1_withSet_36 : decode cX1_withSet 36 = .ok (.iadd, 1) := by decide +kernel
theorem dX1_withSet_37 : decode cX1_withSet 37 = .ok (.i2l, 1) := by decide +kernel
theorem dX1_withSet_38 : decode cX1_withSet 38 = .ok (.getstatic 59, 3) := by decide +kernel
theorem dX1_withSet_41 : decode cX1_withSet 41 = .ok (.iload_n 3, 1) := by decide +kernel
theorem dX1_withSet_42 : decode cX1_withSet 42 = .ok (.laload, 1) := by decide +kernel
theorem dX1_withSet_43 : decode cX1_withSet 43 = .ok (.lmul, 1) := by decide +kernel
theorem dX1_withSet_44 : decode cX1_withSet 44 = .ok (.ladd, 1) := by decide +kernel
theorem dX1_withSet_45 : decode cX1_withSet 45 = .ok (.goto 5, 3) := by decide +kernel
theorem dX1_withSet_48 : decode cX1_withSet 48 = .ok (.lload 4, 2) := by decide +kernel
theorem dX1_withSet_50 : decode cX1_withSet 50 = .ok (.lreturn, 1) := by decide +kernel
theorem dX2_init_0 : decode cX2_init 0 = .ok (.aload_n 0, 1) := by decide +kernel
theorem dX2_init_1 : decode cX2_init 1 = .ok (.invokespecial 3, 3) := by decide +kernel
theorem dX2_init_4 : decode cX2_init 4 = .ok (.aload_n 0, 1) := by decide +kernel
theorem dX2_init_5 : decode cX2_init 5 = .ok (.sipush 160, 3) := by decide +kernel
theorem dX2_init_8 : decode cX2_init 8 = .ok (.newarray .int, 2) := by decide +kernel
theorem dX2_init_10 : decode cX2_init 10 = .ok (.putfield 9, 3) := by decide +kernel
theorem dX2_init_13 : decode cX2_init 13 = .ok (.aload_n 0, 1) := by decide +kernel
theorem dX2_init_14 : decode cX2_init 14 = .ok (.sipush 160, 3) := by decide +kernel
theorem dX2_init_17 : decode cX2_init 17 = .ok (.newarray .int, 2) := by decide +kernel
theorem dX2_init_19 : decode cX2_init 19 = .ok (.putfield 15, 3) := by decide +kernel
theorem dX2_init_22 : decode cX2_init 22 = .ok (.aload_n 0, 1) := by decide +kernel
theorem dX2_init_23 : decode cX2_init 23 = .ok (.iconst 3, 1) := by decide +kernel
theorem dX2_init_24 : decode cX2_init 24 = .ok (.newarray .int, 2) := by decide +kernel
theorem dX2_init_26 : decode cX2_init 26 = .ok (.putfield 18, 3) := by decide +kernel
theorem dX2_init_29 : decode cX2_init 29 = .ok (.return_, 1) := by decide +kernel
theorem dX2_add_0 : decode cX2_add 0 = .ok (.aload_n 0, 1) := by decide +kernel
theorem dX2_add_1 : decode cX2_add 1 = .ok (.getfield 21, 3) := by decide +kernel
theorem dX2_add_4 : decode cX2_add 4 = .ok (.sipush 160, 3) := by decide +kernel
theorem dX2_add_7 : decode cX2_add 7 = .ok (.if_icmp .lt 6, 3) := by decide +kernel
theorem dX2_add_10 : decode cX2_add 10 = .ok (.bipush (-4), 2) := by decide +kernel
theorem dX2_add_12 : decode cX2_add 12 = .ok (.ireturn, 1) := by decide +kernel
theorem dX2_add_13 : decode cX2_add 13 = .ok (.aload_n 0, 1) := by decide +kernel
theorem dX2_add_14 : decode cX2_add 14 = .ok (.getfield 9, 3) := by decide +kernel
theorem dX2_add_17 : decode cX2_add 17 = .ok (.aload_n 0, 1) := by decide +kernel
theorem dX2_add_18 : decode cX2_add 18 = .ok (.getfield 21, 3) := by decide +kernel
theorem dX2_add_21 : decode cX2_add 21 = .ok (.iload_n 1, 1) := by decide +kernel
theorem dX2_add_22 : decode cX2_add 22 = .ok (.iastore, 1) := by decide +kernel
theorem dX2_add_23 : decode cX2_add 23 = .ok (.aload_n 0, 1) := by decide +kernel
theorem dX2_add_24 : decode cX2_add 24 = .ok (.dup, 1) := by decide +kernel
theorem dX2_add_25 : decode cX2_add 25 = .ok (.getfield 21, 3) := by decide +kernel
theorem dX2_add_28 : decode cX2_add 28 = .ok (.iconst 1, 1) := by decide +kernel
theorem dX2_add_29 : decode cX2_add 29 = .ok (.iadd, 1) := by decide +kernel
theorem dX2_add_30 : decode cX2_add 30 = .ok (.putfield 21, 3) := by decide +kernel
theorem dX2_add_33 : decode cX2_add 33 = .ok (.aload_n 0, 1) := by decide +kernel
theorem dX2_add_34 : decode cX2_add 34 = .ok (.getfield 21, 3) := by decide +kernel
theorem dX2_add_37 : decode cX2_add 37 = .ok (.ireturn, 1) := by decide +kernel
theorem dX2_read_0 : decode cX2_read 0 = .ok (.aload_n 0, 1) := by decide +kernel
theorem dX2_read_1 : decode cX2_read 1 = .ok (.iconst 0, 1) := by decide +kernel
theorem dX2_read_2 : decode cX2_read 2 = .ok (.putfield 25, 3) := by decide +kernel
theorem dX2_read_5 : decode cX2_read 5 = .ok (.aload_n 0, 1) := by decide +kernel
theorem dX2_read_6 : decode cX2_read 6 = .ok (.iconst 0, 1) := by decide +kernel
theorem dX2_read_7 : decode cX2_read 7 = .ok (.putfield 28, 3) := by decide +kernel
theorem dX2_read_10 : decode cX2_read 10 = .ok (.aload_n 0, 1) := by decide +kernel
theorem dX2_read_11 : decode cX2_read 11 = .ok (.invokevirtual 31, 3) := by decide +kernel
theorem dX2_read_14 : decode cX2_read 14 = .ok (.iconst 0, 1) := by decide +kernel
theorem dX2_read_15 : decode cX2_read 15 = .ok (.istore_n 1, 1) := by decide +kernel
theorem dX2_read_16 : decode cX2_read 16 = .ok (.iload_n 1, 1) := by decide +kernel
theorem dX2_read_17 : decode cX2_read 17 = .ok (.iconst 3, 1) := by decide +kernel
theorem dX2_read_18 : decode cX2_read 18 = .ok (.if_icmp .ge 64, 3) := by decide +kernel
theorem dX2_read_21 : decode cX2_read 21 = .ok (.aload_n 0, 1) := by decide +kernel
theorem dX2_read_22 : decode cX2_read 22 = .ok (.getfield 34, 3) := by decide +kernel
theorem dX2_read_25 : decode cX2_read 25 = .ok (.iconst 4, 1) := by decide +kernel
theorem dX2_read_26 : decode cX2_read 26 = .ok (.iload_n 1, 1) := by decide +kernel
theorem dX2_read_27 : decode cX2_read 27 = .ok (.iadd, 1) := by decide +kernel
theorem dX2_read_28 : decode cX2_read 28 = .ok (.if_icmp .eq 8, 3) := by decide +kernel
theorem dX2_read_31 : decode cX2_read 31 = .ok (.aload_n 0, 1) := by decide +kernel
theorem dX2_read_32 : decode cX2_read 32 = .ok (.getfield 37, 3) := by decide +kernel
theorem dX2_read_35 : decode cX2_read 35 = .ok (.ireturn, 1) := by decide +kernel
theorem dX2_read_36 : decode cX2_read 36 = .ok (.aload_n 0, 1) := by decide +kernel
theorem dX2_read_37 : decode cX2_read 37 = .ok (.invokevirtual 31, 3) := by decide +kernel
theorem dX2_read_40 : decode cX2_read 40 = .ok (.aload_n 0, 1) := by decide +kernel
theorem dX2_read_41 : decode cX2_read 41 = .ok (.iconst 0, 1) := by decide +kernel
theorem dX2_read_42 : decode cX2_read 42 = .ok (.invokevirtual 40, 3) := by decide +kernel
theorem dX2_read_45 : decode cX2_read 45 = .ok (.ifCond .eq 12, 3) := by decide +kernel
theorem dX2_read_48 : decode cX2_read 48 = .ok (.aload_n 0, 1) := by decide +kernel
theorem dX2_read_49 : decode cX2_read 49 = .ok (.getfield 34, 3) := by decide +kernel
theorem dX2_read_52 : decode cX2_read 52 = .ok (.bipush 59, 2) := by decide +kernel
theorem dX2_read_54 : decode cX2_read 54 = .ok (.if_icmp .eq 8, 3) := by decide +kernel
theorem dX2_read_57 : decode cX2_read 57 = .ok (.aload_n 0, 1) := by decide +kernel
theorem dX2_read_58 : decode cX2_read 58 = .ok (.getfield 37, 3) := by decide +kernel
theorem dX2_read_61 : decode cX2_read 61 = .ok (.ireturn, 1) := by decide +kernel
theorem dX2_read_62 : decode cX2_read 62 = .ok (.aload_n 0, 1) := by decide +kernel
theorem dX2_read_63 : decode cX2_read 63 = .ok (.getfield 18, 3) := by decide +kernel
theorem dX2_read_66 : decode cX2_read 66 = .ok (.iload_n 1, 1) := by decide +kernel
theorem dX2_read_67 : decode cX2_read 67 = .ok (.aload_n 0, 1) := by decide +kernel
theorem dX2_read_68 : decode cX2_read 68 = .ok (.getfield 28, 3) := by decide +kernel
theorem dX2_read_71 : decode cX2_read 71 = .ok (.iastore, 1) := by decide +kernel
theorem dX2_read_72 : decode cX2_read 72 = .ok (.aload_n 0, 1) := by decide +kernel
theorem dX2_read_73 : decode cX2_read 73 = .ok (.invokevirtual 31, 3) := by decide +kernel
theorem dX2_read_76 : decode cX2_read 76 = .ok (.iinc 1 1, 3) := by decide +kernel
theorem dX2_read_79 : decode cX2_read 79 = .ok (.goto (-63), 3) := by decide +kernel
theorem dX2_read_82 : decode cX2_read 82 = .ok (.aload_n 0, 1) := by decide +kernel
theorem dX2_read_83 : decode cX2_read 83 = .ok (.getfield 34, 3) := by decide +kernel
theorem dX2_read_86 : decode cX2_read 86 = .ok (.ifCond .ne 7, 3) := by decide +kernel
theorem dX2_read_89 : decode cX2_read 89 = .ok (.iconst (-1), 1) := by decide +kernel
theorem dX2_read_90 : decode cX2_read 90 = .ok (.goto 7, 3) := by decide +kernel
theorem dX2_read_93 : decode cX2_read 93 = .ok (.aload_n 0, 1) := by decide +kernel
theorem dX2_read_94 : decode cX2_read 94 = .ok (.getfield 37, 3) := by decide +kernel
theorem dX2_read_97 : decode cX2_read 97 = .ok (.ireturn, 1) := by decide +kernel
theorem dX2_readEither_0 : decode cX2_readEither 0 = .ok (.aload_n 0, 1) := by decide +kernel
theorem dX2_readEither_1 : decode cX2_readEither 1 = .ok (.iload_n 1, 1) := by decide +kernel
theorem dX2_readEither_2 : decode cX2_readEither 2 = .ok (.invokevirtual 44, 3) := by decide +kernel
theorem dX2_readEither_5 : decode cX2_readEither 5 = .ok (.istore_n 2, 1) := by decide +kernel
theorem dX2_readEither_6 : decode cX2_readEither 6 = .ok (.iconst 0, 1) := by decide +kernel
theorem dX2_readEither_7 : decode cX2_readEither 7 = .ok (.istore_n 3, 1) := by decide +kernel
theorem dX2_readEither_8 : decode cX2_readEither 8 = .ok (.iload_n 3, 1) := by decide +kernel
theorem dX2_readEither_9 : decode cX2_readEither 9 = .ok (.sipush 160, 3) := by decide +kernel
theorem dX2_readEither_12 : decode cX2_readEither 12 = .ok (.if_icmp .ge 39, 3) := by decide +kernel
theorem dX2_readEither_15 : decode cX2_readEither 15 = .ok (.iload_n 2, 1) := by decide +kernel
theorem dX2_readEither_16 : decode cX2_readEither 16 = .ok (.ifCond .eq 35, 3) := by decide +kernel
theorem dX2_readEither_19 : decode cX2_readEither 19 = .ok (.aload_n 0, 1) := by decide +kernel
theorem dX2_readEither_20 : decode cX2_readEither 20 = .ok (.getfield 34, 3) := by decide +kernel
theorem dX2_readEither_23 : decode cX2_readEither 23 = .ok (.bipush 7, 2) := by decide +kernel
theorem dX2_readEither_25 : decode cX2_readEither 25 = .ok (.if_icmp .ne 26, 3) := by decide +kernel
theorem dX2_readEither_28 : decode cX2_readEither 28 = .ok (.aload_n 0, 1) := by decide +kernel
theorem dX2_readEither_29 : decode cX2_readEither 29 = .ok (.invokevirtual 31, 3) := by decide +kernel
theorem dX2_readEither_32 : decode cX2_readEither 32 = .ok (.aload_n 0, 1) := by decide +kernel
theorem dX2_readEither_33 : decode cX2_readEither 33 = .ok (.iload_n 1, 1) := by decide +kernel
theorem dX2_readEither_34 : decode cX2_readEither 34 = .ok (.invokevirtual 44, 3) := by decide +kernel
theorem dX2_readEither_37 : decode cX2_readEither 37 = .ok (.istore_n 2, 1) := by decide +kernel
theorem dX2_readEither_38 : decode cX2_readEither 38 = .ok (.aload_n 0, 1) := by decide +kernel
theorem dX2_readEither_39 : decode cX2_readEither 39 = .ok (.sipush 20007, 3) := by decide +kernel
theorem dX2_readEither_42 : decode cX2_readEither 42 = .ok (.invokevirtual 49, 3) := by decide +kernel
theorem dX2_readEither_45 : decode cX2_readEither 45 = .ok (.iinc 3 1, 3) := by decide +kernel
theorem dX2_readEither_48 : decode cX2_readEither 48 = .ok (.goto (-40), 3) := by decide +kernel
theorem dX2_readEither_51 : decode cX2_readEither 51 = .ok (.iload_n 2, 1) := by decide +kernel
theorem dX2_readEither_52 : decode cX2_readEither 52 = .ok (.ireturn, 1) := by decide +kernel
theorem dX2_readBoth_0 : decode cX2_readBoth 0 = .ok (.aload_n 0, 1) := by decide +kernel
theorem dX2_readBoth_1 : decode cX2_readBoth 1 = .ok (.iload_n 1, 1) := by decide +kernel
theorem dX2_readBoth_2 : decode cX2_readBoth 2 = .ok (.invokevirtual 53, 3) := by decide +kernel
theorem dX2_readBoth_5 : decode cX2_readBoth 5 = .ok (.istore_n 2, 1) := by decide +kernel
theorem dX2_readBoth_6 : decode cX2_readBoth 6 = .ok (.iconst 0, 1) := by decide +kernel
theorem dX2_readBoth_7 : decode cX2_readBoth 7 = .ok (.istore_n 3, 1) := by decide +kernel
theorem dX2_readBoth_8 : decode cX2_readBoth 8 = .ok (.iload_n 3, 1) := by decide +kernel
theorem dX2_readBoth_9 : decode cX2_readBoth 9 = .ok (.sipush 160, 3) := by decide +kernel
theorem dX2_readBoth_12 : decode cX2_readBoth 12 = .ok (.if_icmp .ge 39, 3) := by decide +kernel
theorem dX2_readBoth_15 : decode cX2_readBoth 15 = .ok (.iload_n 2, 1) := by decide +kernel
theorem dX2_readBoth_16 : decode cX2_readBoth 16 = .ok (.ifCond .eq 35, 3) := by decide +kernel
theorem dX2_readBoth_19 : decode cX2_readBoth 19 = .ok (.aload_n 0, 1) := by decide +kernel
theorem dX2_readBoth_20 : decode cX2_readBoth 20 = .ok (.getfield 34, 3) := by decide +kernel
theorem dX2_readBoth_23 : decode cX2_readBoth 23 = .ok (.bipush 8, 2) := by decide +kernel
theorem dX2_readBoth_25 : decode cX2_readBoth 25 = .ok (.if_icmp .ne 26, 3) := by decide +kernel
theorem dX2_readBoth_28 : decode cX2_readBoth 28 = .ok (.aload_n 0, 1) := by decide +kernel
theorem dX2_readBoth_29 : decode cX2_readBoth 29 = .ok (.invokevirtual 31, 3) := by decide +kernel
theorem dX2_readBoth_32 : decode cX2_readBoth 32 = .ok (.aload_n 0, 1) := by decide +kernel
theorem dX2_readBoth_33 : decode cX2_readBoth 33 = .ok (.iload_n 1, 1) := by decide +kernel
theorem dX2_readBoth_34 : decode cX2_readBoth 34 = .ok (.invokevirtual 53, 3) := by decide +kernel
theorem dX2_readBoth_37 : decode cX2_readBoth 37 = .ok (.istore_n 2, 1) := by decide +kernel
theorem dX2_readBoth_38 : decode cX2_readBoth 38 = .ok (.aload_n 0, 1) := by decide +kernel
theorem dX2_readBoth_39 : decode cX2_readBoth 39 = .ok (.sipush 20008, 3) := by decide +kernel
theorem dX2_readBoth_42 : decode cX2_readBoth 42 = .ok (.invokevirtual 49, 3) := by decide +kernel
theorem dX2_readBoth_45 : decode cX2_readBoth 45 = .ok (.iinc 3 1, 3) := by decide +kernel
theorem dX2_readBoth_48 : decode cX2_readBoth 48 = .ok (.goto (-40), 3) := by decide +kernel
theorem dX2_readBoth_51 : decode cX2_readBoth 51 = .ok (.iload_n 2, 1) := by decide +kernel
theorem dX2_readBoth_52 : decode cX2_readBoth 52 = .ok (.ireturn, 1) := by decide +kernel
theorem dX2_readDenied_0 : decode cX2_readDenied 0 = .ok (.aload_n 0, 1) := by decide +kernel
theorem dX2_readDenied_1 : decode cX2_readDenied 1 = .ok (.getfield 34, 3) := by decide +kernel
theorem dX2_readDenied_4 : decode cX2_readDenied 4 = .ok (.bipush 9, 2) := by decide +kernel
theorem dX2_readDenied_6 : decode cX2_readDenied 6 = .ok (.if_icmp .ne 31, 3) := by decide +kernel
theorem dX2_readDenied_9 : decode cX2_readDenied 9 = .ok (.iload_n 1, 1) := by decide +kernel
theorem dX2_readDenied_10 : decode cX2_readDenied 10 = .ok (.iconst 5, 1) := by decide +kernel
theorem dX2_readDenied_11 : decode cX2_readDenied 11 = .ok (.if_icmp .lt 5, 3) := by decide +kernel
theorem dX2_readDenied_14 : decode cX2_readDenied 14 = .ok (.iconst 0, 1) := by decide +kernel
theorem dX2_readDenied_15 : decode cX2_readDenied 15 = .ok (.ireturn, 1) := by decide +kernel
theorem dX2_readDenied_16 : decode cX2_readDenied 16 = .ok (.aload_n 0, 1) := by decide +kernel
theorem dX2_readDenied_17 : decode cX2_readDenied 17 = .ok (.invokevirtual 31, 3) := by decide +kernel
theorem dX2_readDenied_20 : decode cX2_readDenied 20 = .ok (.aload_n 0, 1) := by decide +kernel
theorem dX2_readDenied_21 : decode cX2_readDenied 21 = .ok (.iload_n 1, 1) := by decide +kernel
theorem dX2_readDenied_22 : decode cX2_readDenied 22 = .ok (.iconst 1, 1) := by decide +kernel
theorem dX2_readDenied_23 : decode cX2_readDenied 23 = .ok (.iadd, 1) := by decide +kernel
theorem dX2_readDenied_24 : decode cX2_readDenied 24 = .ok (.invokevirtual 53, 3) := by decide +kernel
theorem dX2_readDenied_27 : decode cX2_readDenied 27 = .ok (.istore_n 2, 1) := by decide +kernel
theorem dX2_readDenied_28 : decode cX2_readDenied 28 = .ok (.aload_n 0, 1) := by decide +kernel
theorem dX2_readDenied_29 : decode cX2_readDenied 29 = .ok (.sipush 30001, 3) := by decide +kernel
theorem dX2_readDenied_32 : decode cX2_readDenied 32 = .ok (.invokevirtual 49, 3) := by decide +kernel
theorem dX2_readDenied_35 : decode cX2_readDenied 35 = .ok (.iload_n 2, 1) := by decide +kernel
theorem dX2_readDenied_36 : decode cX2_readDenied 36 = .ok (.ireturn, 1) := by decide +kernel
theorem dX2_readDenied_37 : decode cX2_readDenied 37 = .ok (.aload_n 0, 1) := by decide +kernel
theorem dX2_readDenied_38 : decode cX2_readDenied 38 = .ok (.iload_n 1, 1) := by decide +kernel
theorem dX2_readDenied_39 : decode cX2_readDenied 39 = .ok (.invokevirtual 56, 3) := by decide +kernel
theorem dX2_readDenied_42 : decode cX2_readDenied 42 = .ok (.istore_n 2, 1) := by decide +kernel
theorem dX2_readDenied_43 : decode cX2_readDenied 43 = .ok (.iload_n 2, 1) := by decide +kernel
theorem dX2_readDenied_44 : decode cX2_readDenied 44 = .ok (.ifCond .eq 45, 3) := by decide +kernel
theorem dX2_readDenied_47 : decode cX2_readDenied 47 = .ok (.aload_n 0, 1) := by decide +kernel
theorem dX2_readDenied_48 : decode cX2_readDenied 48 = .ok (.getfield 34, 3) := by decide +kernel
theorem dX2_readDenied_51 : decode cX2_readDenied 51 = .ok (.bipush 60, 2) := by decide +kernel
theorem dX2_readDenied_53 : decode cX2_readDenied 53 = .ok (.if_icmp .eq 12, 3) := by decide +kernel
theorem dX2_readDenied_56 : decode cX2_readDenied 56 = .ok (.aload_n 0, 1) := by decide +kernel
theorem dX2_readDenied_57 : decode cX2_readDenied 57 = .ok (.getfield 34, 3) := by decide +kernel
theorem dX2_readDenied_60 : decode cX2_readDenied 60 = .ok (.bipush 61, 2) := by decide +kernel
theorem dX2_readDenied_62 : decode cX2_readDenied 62 = .ok (.if_icmp .ne 27, 3) := by decide +kernel
theorem dX2_readDenied_65 : decode cX2_readDenied 65 = .ok (.aload_n 0, 1) := by decide +kernel
theorem dX2_readDenied_66 : decode cX2_readDenied 66 = .ok (.getfield 34, 3) := by decide +kernel
theorem dX2_readDenied_69 : decode cX2_readDenied 69 = .ok (.istore_n 3, 1) := by decide +kernel
theorem dX2_readDenied_70 : decode cX2_readDenied 70 = .ok (.aload_n 0, 1) := by decide +kernel
theorem dX2_readDenied_71 : decode cX2_readDenied 71 = .ok (.invokevirtual 31, 3) := by decide +kernel
theorem dX2_readDenied_74 : decode cX2_readDenied 74 = .ok (.aload_n 0, 1) := by decide +kernel
theorem dX2_readDenied_75 : decode cX2_readDenied 75 = .ok (.iload_n 1, 1) := by decide +kernel
theorem dX2_readDenied_76 : decode cX2_readDenied 76 = .ok (.invokevirtual 56, 3) := by decide +kernel
theorem dX2_readDenied_79 : decode cX2_readDenied 79 = .ok (.istore_n 2, 1) := by decide +kernel
theorem dX2_readDenied_80 : decode cX2_readDenied 80 = .ok (.aload_n 0, 1) := by decide +kernel
theorem dX2_readDenied_81 : decode cX2_readDenied 81 = .ok (.sipush 20000, 3) := by decide +kernel
theorem dX2_readDenied_84 : decode cX2_readDenied 84 = .ok (.iload_n 3, 1) := by decide +kernel
theorem dX2_readDenied_85 : decode cX2_readDenied 85 = .ok (.iadd, 1) := by decide +kernel
theorem dX2_readDenied_86 : decode cX2_readDenied 86 = .ok (.invokevirtual 49, 3) := by decide +kernel
theorem dX2_readDenied_89 : decode cX2_readDenied 89 = .ok (.iload_n 2, 1) := by decide +kernel
theorem dX2_readDenied_90 : decode cX2_readDenied 90 = .ok (.ireturn, 1) := by decide +kernel
theorem dX2_readSum_0 : decode cX2_readSum 0 = .ok (.aload_n 0, 1) := by decide +kernel
theorem dX2_readSum_1 : decode cX2_readSum 1 = .ok (.iload_n 1, 1) := by decide +kernel
theorem dX2_readSum_2 : decode cX2_readSum 2 = .ok (.invokevirtual 59, 3) := by decide +kernel
theorem dX2_readSum_5 : decode cX2_readSum 5 = .ok (.istore_n 2, 1) := by decide +kernel
theorem dX2_readSum_6 : decode cX2_readSum 6 = .ok (.iconst 0, 1) := by decide +kernel
theorem dX2_readSum_7 : decode cX2_readSum 7 = .ok (.istore_n 3, 1) := by decide +kernel
theorem dX2_readSum_8 : decode cX2_readSum 8 = .ok (.iload_n 3, 1) := by decide +kernel
theorem dX2_readSum_9 : decode cX2_readSum 9 = .ok (.sipush 160, 3) := by decide +kernel
theorem dX2_readSum_12 : decode cX2_readSum 12 = .ok (.if_icmp .ge 57, 3) := by decide +kernel
theorem dX2_readSum_15 : decode cX2_readSum 15 = .ok (.iload_n 2, 1) := by decide +kernel
theorem dX2_readSum_16 : decode cX2_readSum 16 = .ok (.ifCond .eq 53, 3) := by decide +kernel
theorem dX2_readSum_19 : decode cX2_readSum 19 = .ok (.aload_n 0, 1) := by decide +kernel
theorem dX2_readSum_20 : decode cX2_readSum 20 = .ok (.getfield 34, 3) := by decide +kernel
theorem dX2_readSum_23 : decode cX2_readSum 23 = .ok (.bipush 43, 2) := by decide +kernel
theorem dX2_readSum_25 : decode cX2_readSum 25 = .ok (.if_icmp .eq 12, 3) := by decide +kernel
theorem dX2_readSum_28 : decode cX2_readSum 28 = .ok (.aload_n 0, 1) := by decide +kernel
theorem dX2_readSum_29 : decode cX2_readSum 29 = .ok (.getfield 34, 3) := by decide +kernel
theorem dX2_readSum_32 : decode cX2_readSum 32 = .ok (.bipush 45, 2) := by decide +kernel
theorem dX2_readSum_34 : decode cX2_readSum 34 = .ok (.if_icmp .ne 35, 3) := by decide +kernel
theorem dX2_readSum_37 : decode cX2_readSum 37 = .ok (.aload_n 0, 1) := by decide +kernel
theorem dX2_readSum_38 : decode cX2_readSum 38 = .ok (.getfield 34, 3) := by decide +kernel
theorem dX2_readSum_41 : decode cX2_readSum 41 = .ok (.istore 4, 2) := by decide +kernel
theorem dX2_readSum_43 : decode cX2_readSum 43 = .ok (.aload_n 0, 1) := by decide +kernel
theorem dX2_readSum_44 : decode cX2_readSum 44 = .ok (.invokevirtual 31, 3) := by decide +kernel
theorem dX2_readSum_47 : decode cX2_readSum 47 = .ok (.aload_n 0, 1) := by decide +kernel
theorem dX2_readSum_48 : decode cX2_readSum 48 = .ok (.iload_n 1, 1) := by decide +kernel
theorem dX2_readSum_49 : decode cX2_readSum 49 = .ok (.invokevirtual 59, 3) := by decide +kernel
theorem dX2_readSum_52 : decode cX2_readSum 52 = .ok (.istore_n 2, 1) := by decide +kernel
theorem dX2_readSum_53 : decode cX2_readSum 53 = .ok (.aload_n 0, 1) := by decide +kernel
theorem dX2_readSum_54 : decode cX2_readSum 54 = .ok (.sipush 20000, 3) := by decide +kernel
theorem dX2_readSum_57 : decode cX2_readSum 57 = .ok (.iload 4, 2) := by decide +kernel
theorem dX2_readSum_59 : decode cX2_readSum 59 = .ok (.iadd, 1) := by decide +kernel
theorem dX2_readSum_60 : decode cX2_readSum 60 = .ok (.invokevirtual 49, 3) := by decide +kernel
theorem dX2_readSum_63 : decode cX2_readSum 63 = .ok (.iinc 3 1, 3) := by decide +kernel
theorem dX2_readSum_66 : decode cX2_readSum 66 = .ok (.goto (-58), 3) := by decide +kernel
theorem dX2_readSum_69 : decode cX2_readSum 69 = .ok (.iload_n 2, 1) := by decide +kernel
theorem dX2_readSum_70 : decode cX2_readSum 70 = .ok (.ireturn, 1) := by decide +kernel
theorem dX2_readTerm_0 : decode cX2_readTerm 0 = .ok (.aload_n 0, 1) := by decide +kernel
theorem dX2_readTerm_1 : decode cX2_readTerm 1 = .ok (.iload_n 1, 1) := by decide +kernel
theorem dX2_readTerm_2 : decode cX2_readTerm 2 = .ok (.invokevirtual 62, 3) := by decide +kernel
theorem dX2_readTerm_5 : decode cX2_readTerm 5 = .ok (.istore_n 2, 1) := by decide +kernel
theorem dX2_readTerm_6 : decode cX2_readTerm 6 = .ok (.iconst 0, 1) := by decide +kernel
theorem dX2_readTerm_7 : decode cX2_readTerm 7 = .ok (.istore_n 3, 1) := by decide +kernel
theorem dX2_readTerm_8 : decode cX2_readTerm 8 = .ok (.iload_n 3, 1) := by decide +kernel
theorem dX2_readTerm_9 : decode cX2_readTerm 9 = .ok (.sipush 160, 3) := by decide +kernel
theorem dX2_readTerm_12 : decode cX2_readTerm 12 = .ok (.if_icmp .ge 39, 3) := by decide +kernel
theorem dX2_readTerm_15 : decode cX2_readTerm 15 = .ok (.iload_n 2, 1) := by decide +kernel
theorem dX2_readTerm_16 : decode cX2_readTerm 16 = .ok (.ifCond .eq 35, 3) := by decide +kernel
theorem dX2_readTerm_19 : decode cX2_readTerm 19 = .ok (.aload_n 0, 1) := by decide +kernel
theorem dX2_readTerm_20 : decode cX2_readTerm 20 = .ok (.getfield 34, 3) := by decide +kernel
theorem dX2_readTerm_23 : decode cX2_readTerm 23 = .ok (.bipush 42, 2) := by decide +kernel
theorem dX2_readTerm_25 : decode cX2_readTerm 25 = .ok (.if_icmp .ne 26, 3) := by decide +kernel
theorem dX2_readTerm_28 : decode cX2_readTerm 28 = .ok (.aload_n 0, 1) := by decide +kernel
theorem dX2_readTerm_29 : decode cX2_readTerm 29 = .ok (.invokevirtual 31, 3) := by decide +kernel
theorem dX2_readTerm_32 : decode cX2_readTerm 32 = .ok (.aload_n 0, 1) := by decide +kernel
theorem dX2_readTerm_33 : decode cX2_readTerm 33 = .ok (.iload_n 1, 1) := by decide +kernel
theorem dX2_readTerm_34 : decode cX2_readTerm 34 = .ok (.invokevirtual 62, 3) := by decide +kernel
theorem dX2_readTerm_37 : decode cX2_readTerm 37 = .ok (.istore_n 2, 1) := by decide +kernel
theorem dX2_readTerm_38 : decode cX2_readTerm 38 = .ok (.aload_n 0, 1) := by decide +kernel
theorem dX2_readTerm_39 : decode cX2_readTerm 39 = .ok (.sipush 20042, 3) := by decide +kernel
theorem dX2_readTerm_42 : decode cX2_readTerm 42 = .ok (.invokevirtual 49, 3) := by decide +kernel
theorem dX2_readTerm_45 : decode cX2_readTerm 45 = .ok (.iinc 3 1, 3) := by decide +kernel
theorem dX2_readTerm_48 : decode cX2_readTerm 48 = .ok (.goto (-40), 3) := by decide +kernel
theorem dX2_readTerm_51 : decode cX2_readTerm 51 = .ok (.iload_n 2, 1) := by decide +kernel
theorem dX2_readTerm_52 : decode cX2_readTerm 52 = .ok (.ireturn, 1) := by decide +kernel
theorem dX2_readOne_0 : decode cX2_readOne 0 = .ok (.aload_n 0, 1) := by decide +kernel
theorem dX2_readOne_1 : decode cX2_readOne 1 = .ok (.getfield 34, 3) := by decide +kernel
theorem dX2_readOne_4 : decode cX2_readOne 4 = .ok (.iconst 2, 1) := by decide +kernel
theorem dX2_readOne_5 : decode cX2_readOne 5 = .ok (.if_icmp .eq 11, 3) := by decide +kernel
theorem dX2_readOne_8 : decode cX2_readOne 8 = .ok (.aload_n 0, 1) := by decide +kernel
theorem dX2_readOne_9 : decode cX2_readOne 9 = .ok (.getfield 34, 3) := by decide +kernel
theorem dX2_readOne_12 : decode cX2_readOne 12 = .ok (.iconst 3, 1) := by decide +kernel
theorem dX2_readOne_13 : decode cX2_readOne 13 = .ok (.if_icmp .ne 36, 3) := by decide +kernel
theorem dX2_readOne_16 : decode cX2_readOne 16 = .ok (.aload_n 0, 1) := by decide +kernel
theorem dX2_readOne_17 : decode cX2_readOne 17 = .ok (.aload_n 0, 1) := by decide +kernel
theorem dX2_readOne_18 : decode cX2_readOne 18 = .ok (.getfield 34, 3) := by decide +kernel
theorem dX2_readOne_21 : decode cX2_readOne 21 = .ok (.iconst 2, 1) := by decide +kernel
theorem dX2_readOne_22 : decode cX2_readOne 22 = .ok (.if_icmp .ne 10, 3) := by decide +kernel
theorem dX2_readOne_25 : decode cX2_readOne 25 = .ok (.aload_n 0, 1) := by decide +kernel
theorem dX2_readOne_26 : decode cX2_readOne 26 = .ok (.getfield 65, 3) := by decide +kernel
theorem dX2_readOne_29 : decode cX2_readOne 29 = .ok (.goto 11, 3) := by decide +kernel
theorem dX2_readOne_32 : decode cX2_readOne 32 = .ok (.sipush 10000, 3) := by decide +kernel
theorem dX2_readOne_35 : decode cX2_readOne 35 = .ok (.aload_n 0, 1) := by decide +kernel
theorem dX2_readOne_36 : decode cX2_readOne 36 = .ok (.getfield 65, 3) := by decide +kernel
theorem dX2_readOne_39 : decode cX2_readOne 39 = .ok (.iadd, 1) := by decide +kernel
theorem dX2_readOne_40 : decode cX2_readOne 40 = .ok (.invokevirtual 49, 3) := by decide +kernel
theorem dX2_readOne_43 : decode cX2_readOne 43 = .ok (.aload_n 0, 1) := by decide +kernel
theorem dX2_readOne_44 : decode cX2_readOne 44 = .ok (.invokevirtual 31, 3) := by decide +kernel
theorem dX2_readOne_47 : decode cX2_readOne 47 = .ok (.iconst 1, 1) := by decide +kernel
theorem dX2_readOne_48 : decode cX2_readOne 48 = .ok (.ireturn, 1) := by decide +kernel
theorem dX2_readOne_49 : decode cX2_readOne 49 = .ok (.aload_n 0, 1) := by decide +kernel
theorem dX2_readOne_50 : decode cX2_readOne 50 = .ok (.getfield 34, 3) := by decide +kernel
theorem dX2_readOne_53 : decode cX2_readOne 53 = .ok (.bipush 45, 2) := by decide +kernel
theorem dX2_readOne_55 : decode cX2_readOne 55 = .ok (.if_icmp .eq 12, 3) := by decide +kernel
theorem dX2_readOne_58 : decode cX2_readOne 58 = .ok (.aload_n 0, 1) := by decide +kernel
theorem dX2_readOne_59 : decode cX2_readOne 59 = .ok (.getfield 34, 3) := by decide +kernel
theorem dX2_readOne_62 : decode cX2_readOne 62 = .ok (.bipush 40, 2) := by decide +kernel
theorem dX2_readOne_64 : decode cX2_readOne 64 = .ok (.if_icmp .ne 8, 3) := by decide +kernel
theorem dX2_readOne_67 : decode cX2_readOne 67 = .ok (.iload_n 1, 1) := by decide +kernel
theorem dX2_readOne_68 : decode cX2_readOne 68 = .ok (.iconst 5, 1) := by decide +kernel
theorem dX2_readOne_69 : decode cX2_readOne 69 = .ok (.if_icmp .lt 5, 3) := by decide +kernel
theorem dX2_readOne_72 : decode cX2_readOne 72 = .ok (.iconst 0, 1) := by decide +kernel
theorem dX2_readOne_73 : decode cX2_readOne 73 = .ok (.ireturn, 1) := by decide +kernel
theorem dX2_readOne_74 : decode cX2_readOne 74 = .ok (.aload_n 0, 1) := by decide +kernel
theorem dX2_readOne_75 : decode cX2_readOne 75 = .ok (.getfield 34, 3) := by decide +kernel
theorem dX2_readOne_78 : decode cX2_readOne 78 = .ok (.bipush 45, 2) := by decide +kernel
theorem dX2_readOne_80 : decode cX2_readOne 80 = .ok (.if_icmp .ne 24, 3) := by decide +kernel
theorem dX2_readOne_83 : decode cX2_readOne 83 = .ok (.aload_n 0, 1) := by decide +kernel
theorem dX2_readOne_84 : decode cX2_readOne 84 = .ok (.invokevirtual 31, 3) := by decide +kernel
theorem dX2_readOne_87 : decode cX2_readOne 87 = .ok (.aload_n 0, 1) := by decide +kernel
theorem dX2_readOne_88 : decode cX2_readOne 88 = .ok (.iload_n 1, 1) := by decide +kernel
theorem dX2_readOne_89 : decode cX2_readOne 89 = .ok (.iconst 1, 1) := by decide +kernel
theorem dX2_readOne_90 : decode cX2_readOne 90 = .ok (.iadd, 1) := by decide +kernel
theorem dX2_readOne_91 : decode cX2_readOne 91 = .ok (.invokevirtual 62, 3) := by decide +kernel
theorem dX2_readOne_94 : decode cX2_readOne 94 = .ok (.istore_n 2, 1) := by decide +kernel
theorem dX2_readOne_95 : decode cX2_readOne 95 = .ok (.aload_n 0, 1) := by decide +kernel
theorem dX2_readOne_96 : decode cX2_readOne 96 = .ok (.sipush 30000, 3) := by decide +kernel
theorem dX2_readOne_99 : decode cX2_readOne 99 = .ok (.invokevirtual 49, 3) := by decide +kernel
theorem dX2_readOne_102 : decode cX2_readOne 102 = .ok (.iload_n 2, 1) := by decide +kernel
theorem dX2_readOne_103 : decode cX2_readOne 103 = .ok (.ireturn, 1) := by decide +kernel
theorem dX2_readOne_104 : decode cX2_readOne 104 = .ok (.aload_n 0, 1) := by decide +kernel
theorem dX2_readOne_105 : decode cX2_readOne 105 = .ok (.invokevirtual 31, 3) := by decide +kernel
theorem dX2_readOne_108 : decode cX2_readOne 108 = .ok (.aload_n 0, 1) := by decide +kernel
theorem dX2_readOne_109 : decode cX2_readOne 109 = .ok (.iload_n 1, 1) := by decide +kernel
theorem dX2_readOne_110 : decode cX2_readOne 110 = .ok (.iconst 1, 1) := by decide +kernel
theorem dX2_readOne_111 : decode cX2_readOne 111 = .ok (.iadd, 1) := by decide +kernel
theorem dX2_readOne_112 : decode cX2_readOne 112 = .ok (.invokevirtual 40, 3) := by decide +kernel
theorem dX2_readOne_115 : decode cX2_readOne 115 = .ok (.ifCond .eq 12, 3) := by decide +kernel
theorem dX2_readOne_118 : decode cX2_readOne 118 = .ok (.aload_n 0, 1) := by decide +kernel
theorem dX2_readOne_119 : decode cX2_readOne 119 = .ok (.getfield 34, 3) := by decide +kernel
theorem dX2_readOne_122 : decode cX2_readOne 122 = .ok (.bipush 41, 2) := by decide +kernel
theorem dX2_readOne_124 : decode cX2_readOne 124 = .ok (.if_icmp .eq 5, 3) := by decide +kernel
theorem dX2_readOne_127 : decode cX2_readOne 127 = .ok (.iconst 0, 1) := by decide +kernel
theorem dX2_readOne_128 : decode cX2_readOne 128 = .ok (.ireturn, 1) := by decide +kernel
theorem dX2_readOne_129 : decode cX2_readOne 129 = .ok (.aload_n 0, 1) := by decide +kernel
theorem dX2_readOne_130 : decode cX2_readOne 130 = .ok (.invokevirtual 31, 3) := by decide +kernel
theorem dX2_readOne_133 : decode cX2_readOne 133 = .ok (.iconst 1, 1) := by decide +kernel
theorem dX2_readOne_134 : decode cX2_readOne 134 = .ok (.ireturn, 1) := by decide +kernel
theorem dX2_emit_0 : decode cX2_emit 0 = .ok (.aload_n 0, 1) := by decide +kernel
theorem dX2_emit_1 : decode cX2_emit 1 = .ok (.getfield 28, 3) := by decide +kernel
theorem dX2_emit_4 : decode cX2_emit 4 = .ok (.sipush 160, 3) := by decide +kernel
theorem dX2_emit_7 : decode cX2_emit 7 = .ok (.if_icmp .ge 23, 3) := by decide +kernel
theorem dX2_emit_10 : decode cX2_emit 10 = .ok (.aload_n 0, 1) := by decide +kernel
theorem dX2_emit_11 : decode cX2_emit 11 = .ok (.getfield 15, 3) := by decide +kernel
theorem dX2_emit_14 : decode cX2_emit 14 = .ok (.aload_n 0, 1) := by decide +kernel
theorem dX2_emit_15 : decode cX2_emit 15 = .ok (.getfield 28, 3) := by decide +kernel
theorem dX2_emit_18 : decode cX2_emit 18 = .ok (.iload_n 1, 1) := by decide +kernel
theorem dX2_emit_19 : decode cX2_emit 19 = .ok (.iastore, 1) := by decide +kernel
theorem dX2_emit_20 : decode cX2_emit 20 = .ok (.aload_n 0, 1) := by decide +kernel
theorem dX2_emit_21 : decode cX2_emit 21 = .ok (.dup, 1) := by decide +kernel
theorem dX2_emit_22 : decode cX2_emit 22 = .ok (.getfield 28, 3) := by decide +kernel
theorem dX2_emit_25 : decode cX2_emit 25 = .ok (.iconst 1, 1) := by decide +kernel
theorem dX2_emit_26 : decode cX2_emit 26 = .ok (.iadd, 1) := by decide +kernel
theorem dX2_emit_27 : decode cX2_emit 27 = .ok (.putfield 28, 3) := by decide +kernel
theorem dX2_emit_30 : decode cX2_emit 30 = .ok (.return_, 1) := by decide +kernel
theorem dX2_next_0 : decode cX2_next 0 = .ok (.aload_n 0, 1) := by decide +kernel
theorem dX2_next_1 : decode cX2_next 1 = .ok (.getfield 25, 3) := by decide +kernel
theorem dX2_next_4 : decode cX2_next 4 = .ok (.aload_n 0, 1) := by decide +kernel
theorem dX2_next_5 : decode cX2_next 5 = .ok (.getfield 21, 3) := by decide +kernel
theorem dX2_next_8 : decode cX2_next 8 = .ok (.if_icmp .ge 44, 3) := by decide +kernel
theorem dX2_next_11 : decode cX2_next 11 = .ok (.aload_n 0, 1) := by decide +kernel
theorem dX2_next_12 : decode cX2_next 12 = .ok (.getfield 9, 3) := by decide +kernel
theorem dX2_next_15 : decode cX2_next 15 = .ok (.aload_n 0, 1) := by decide +kernel
theorem dX2_next_16 : decode cX2_next 16 = .ok (.getfield 25, 3) := by decide +kernel
theorem dX2_next_19 : decode cX2_next 19 = .ok (.iaload, 1) := by decide +kernel
theorem dX2_next_20 : decode cX2_next 20 = .ok (.bipush 32, 2) := by decide +kernel
theorem dX2_next_22 : decode cX2_next 22 = .ok (.if_icmp .eq 17, 3) := by decide +kernel
theorem dX2_next_25 : decode cX2_next 25 = .ok (.aload_n 0, 1) := by decide +kernel
theorem dX2_next_26 : decode cX2_next 26 = .ok (.getfield 9, 3) := by decide +kernel
theorem dX2_next_29 : decode cX2_next 29 = .ok (.aload_n 0, 1) := by decide +kernel
theorem dX2_next_30 : decode cX2_next 30 = .ok (.getfield 25, 3) := by decide +kernel
theorem dX2_next_33 : decode cX2_next 33 = .ok (.iaload, 1) := by decide +kernel
theorem dX2_next_34 : decode cX2_next 34 = .ok (.bipush 10, 2) := by decide +kernel
theorem dX2_next_36 : decode cX2_next 36 = .ok (.if_icmp .ne 16, 3) := by decide +kernel
theorem dX2_next_39 : decode cX2_next 39 = .ok (.aload_n 0, 1) := by decide +kernel
theorem dX2_next_40 : decode cX2_next 40 = .ok (.dup, 1) := by decide +kernel
theorem dX2_next_41 : decode cX2_next 41 = .ok (.getfield 25, 3) := by decide +kernel
theorem dX2_next_44 : decode cX2_next 44 = .ok (.iconst 1, 1) := by decide +kernel
theorem dX2_next_45 : decode cX2_next 45 = .ok (.iadd, 1) := by decide +kernel
theorem dX2_next_46 : decode cX2_next 46 = .ok (.putfield 25, 3) := by decide +kernel
theorem dX2_next_49 : decode cX2_next 49 = .ok (.goto (-49), 3) := by decide +kernel
theorem dX2_next_52 : decode cX2_next 52 = .ok (.aload_n 0, 1) := by decide +kernel
theorem dX2_next_53 : decode cX2_next 53 = .ok (.aload_n 0, 1) := by decide +kernel
theorem dX2_next_54 : decode cX2_next 54 = .ok (.getfield 25, 3) := by decide +kernel
theorem dX2_next_57 : decode cX2_next 57 = .ok (.putfield 37, 3) := by decide +kernel
theorem dX2_next_60 : decode cX2_next 60 = .ok (.aload_n 0, 1) := by decide +kernel
theorem dX2_next_61 : decode cX2_next 61 = .ok (.getfield 25, 3) := by decide +kernel
theorem dX2_next_64 : decode cX2_next 64 = .ok (.aload_n 0, 1) := by decide +kernel
theorem dX2_next_65 : decode cX2_next 65 = .ok (.getfield 21, 3) := by decide +kernel
theorem dX2_next_68 : decode cX2_next 68 = .ok (.if_icmp .lt 11, 3) := by decide +kernel
theorem dX2_next_71 : decode cX2_next 71 = .ok (.aload_n 0, 1) := by decide +kernel
theorem dX2_next_72 : decode cX2_next 72 = .ok (.iconst 0, 1) := by decide +kernel
theorem dX2_next_73 : decode cX2_next 73 = .ok (.putfield 34, 3) := by decide +kernel
theorem dX2_next_76 : decode cX2_next 76 = .ok (.goto 84, 3) := by decide +kernel
theorem dX2_next_79 : decode cX2_next 79 = .ok (.aload_n 0, 1) := by decide +kernel
theorem dX2_next_80 : decode cX2_next 80 = .ok (.aload_n 0, 1) := by decide +kernel
theorem dX2_next_81 : decode cX2_next 81 = .ok (.getfield 25, 3) := by decide +kernel
theorem dX2_next_84 : decode cX2_next 84 = .ok (.invokevirtual 68, 3) := by decide +kernel
theorem dX2_next_87 : decode cX2_next 87 = .ok (.ifCond .eq 10, 3) := by decide +kernel
theorem dX2_next_90 : decode cX2_next 90 = .ok (.aload_n 0, 1) := by decide +kernel
theorem dX2_next_91 : decode cX2_next 91 = .ok (.invokevirtual 71, 3) := by decide +kernel
theorem dX2_next_94 : decode cX2_next 94 = .ok (.goto 66, 3) := by decide +kernel
theorem dX2_next_97 : decode cX2_next 97 = .ok (.aload_n 0, 1) := by decide +kernel
theorem dX2_next_98 : decode cX2_next 98 = .ok (.aload_n 0, 1) := by decide +kernel
theorem dX2_next_99 : decode cX2_next 99 = .ok (.getfield 25, 3) := by decide +kernel
theorem dX2_next_102 : decode cX2_next 102 = .ok (.invokevirtual 74, 3) := by decide +kernel
theorem dX2_next_105 : decode cX2_next 105 = .ok (.ifCond .eq 10, 3) := by decide +kernel
theorem dX2_next_108 : decode cX2_next 108 = .ok (.aload_n 0, 1) := by decide +kernel
theorem dX2_next_109 : decode cX2_next 109 = .ok (.invokevirtual 77, 3) := by decide +kernel
theorem dX2_next_112 : decode cX2_next 112 = .ok (.goto 48, 3) := by decide +kernel
theorem dX2_next_115 : decode cX2_next 115 = .ok (.aload_n 0, 1) := by decide +kernel
theorem dX2_next_116 : decode cX2_next 116 = .ok (.ldc 80, 2) := by decide +kernel
theorem dX2_next_118 : decode cX2_next 118 = .ok (.aload_n 0, 1) := by decide +kernel
theorem dX2_next_119 : decode cX2_next 119 = .ok (.getfield 9, 3) := by decide +kernel
theorem dX2_next_122 : decode cX2_next 122 = .ok (.aload_n 0, 1) := by decide +kernel
theorem dX2_next_123 : decode cX2_next 123 = .ok (.getfield 25, 3) := by decide +kernel
theorem dX2_next_126 : decode cX2_next 126 = .ok (.iaload, 1) := by decide +kernel
theorem dX2_next_127 : decode cX2_next 127 = .ok (.i2c, 1) := by decide +kernel
theorem dX2_next_128 : decode cX2_next 128 = .ok (.invokevirtual 82, 3) := by decide +kernel
theorem dX2_next_131 : decode cX2_next 131 = .ok (.ifCond .lt 15, 3) := by decide +kernel
theorem dX2_next_134 : decode cX2_next 134 = .ok (.aload_n 0, 1) := by decide +kernel
theorem dX2_next_135 : decode cX2_next 135 = .ok (.getfield 9, 3) := by decide +kernel
theorem dX2_next_138 : decode cX2_next 138 = .ok (.aload_n 0, 1) := by decide +kernel
theorem dX2_next_139 : decode cX2_next 139 = .ok (.getfield 25, 3) := by decide +kernel
theorem dX2_next_142 : decode cX2_next 142 = .ok (.iaload, 1) := by decide +kernel
theorem dX2_next_143 : decode cX2_next 143 = .ok (.goto 4, 3) := by decide +kernel
theorem dX2_next_146 : decode cX2_next 146 = .ok (.iconst 1, 1) := by decide +kernel
theorem dX2_next_147 : decode cX2_next 147 = .ok (.putfield 34, 3) := by decide +kernel
theorem dX2_next_150 : decode cX2_next 150 = .ok (.aload_n 0, 1) := by decide +kernel
theorem dX2_next_151 : decode cX2_next 151 = .ok (.dup, 1) := by decide +kernel
theorem dX2_next_152 : decode cX2_next 152 = .ok (.getfield 25, 3) := by decide +kernel
theorem dX2_next_155 : decode cX2_next 155 = .ok (.iconst 1, 1) := by decide +kernel
theorem dX2_next_156 : decode cX2_next 156 = .ok (.iadd, 1) := by decide +kernel
theorem dX2_next_157 : decode cX2_next 157 = .ok (.putfield 25, 3) := by decide +kernel
theorem dX2_next_160 : decode cX2_next 160 = .ok (.return_, 1) := by decide +kernel
theorem dX2_nextNumber_0 : decode cX2_nextNumber 0 = .ok (.aload_n 0, 1) := by decide +kernel
theorem dX2_nextNumber_1 : decode cX2_nextNumber 1 = .ok (.iconst 0, 1) := by decide +kernel
theorem dX2_nextNumber_2 : decode cX2_nextNumber 2 = .ok (.putfield 65, 3) := by decide +kernel
theorem dX2_nextNumber_5 : decode cX2_nextNumber 5 = .ok (.aload_n 0, 1) := by decide +kernel
theorem dX2_nextNumber_6 : decode cX2_nextNumber 6 = .ok (.getfield 25, 3) := by decide +kernel
theorem dX2_nextNumber_9 : decode cX2_nextNumber 9 = .ok (.aload_n 0, 1) := by decide +kernel
theorem dX2_nextNumber_10 : decode cX2_nextNumber 10 = .ok (.getfield 21, 3) := by decide +kernel
theorem dX2_nextNumber_13 : decode cX2_nextNumber 13 = .ok (.if_icmp .ge 64, 3) := by decide +kernel
theorem dX2_nextNumber_16 : decode cX2_nextNumber 16 = .ok (.aload_n 0, 1) := by decide +kernel
theorem dX2_nextNumber_17 : decode cX2_nextNumber 17 = .ok (.aload_n 0, 1) := by decide +kernel
theorem dX2_nextNumber_18 : decode cX2_nextNumber 18 = .ok (.getfield 25, 3) := by decide +kernel
theorem dX2_nextNumber_21 : decode cX2_nextNumber 21 = .ok (.invokevirtual 68, 3) := by decide +kernel
theorem dX2_nextNumber_24 : decode cX2_nextNumber 24 = .ok (.ifCond .eq 53, 3) := by decide +kernel
theorem dX2_nextNumber_27 : decode cX2_nextNumber 27 = .ok (.aload_n 0, 1) := by decide +kernel
theorem dX2_nextNumber_28 : decode cX2_nextNumber 28 = .ok (.getfield 25, 3) := by decide +kernel
theorem dX2_nextNumber_31 : decode cX2_nextNumber 31 = .ok (.aload_n 0, 1) := by decide +kernel
theorem dX2_nextNumber_32 : decode cX2_nextNumber 32 = .ok (.getfield 37, 3) := by decide +kernel
theorem dX2_nextNumber_35 : decode cX2_nextNumber 35 = .ok (.isub, 1) := by decide +kernel
theorem dX2_nextNumber_36 : decode cX2_nextNumber 36 = .ok (.iconst 4, 1) := by decide +kernel
theorem dX2_nextNumber_37 : decode cX2_nextNumber 37 = .ok (.if_icmp .ge 27, 3) := by decide +kernel
theorem dX2_nextNumber_40 : decode cX2_nextNumber 40 = .ok (.aload_n 0, 1) := by decide +kernel
theorem dX2_nextNumber_41 : decode cX2_nextNumber 41 = .ok (.aload_n 0, 1) := by decide +kernel
theorem dX2_nextNumber_42 : decode cX2_nextNumber 42 = .ok (.getfield 65, 3) := by decide +kernel
theorem dX2_nextNumber_45 : decode cX2_nextNumber 45 = .ok (.bipush 10, 2) := by decide +kernel
theorem dX2_nextNumber_47 : decode cX2_nextNumber 47 = .ok (.imul, 1) := by decide +kernel
theorem dX2_nextNumber_48 : decode cX2_nextNumber 48 = .ok (.aload_n 0, 1) := by decide +kernel
theorem dX2_nextNumber_49 : decode cX2_nextNumber 49 = .ok (.getfield 9, 3) := by decide +kernel
theorem dX2_nextNumber_52 : decode cX2_nextNumber 52 = .ok (.aload_n 0, 1) := by decide +kernel
theorem dX2_nextNumber_53 : decode cX2_nextNumber 53 = .ok (.getfield 25, 3) := by decide +kernel
theorem dX2_nextNumber_56 : decode cX2_nextNumber 56 = .ok (.iaload, 1) := by decide +kernel
theorem dX2_nextNumber_57 : decode cX2_nextNumber 57 = .ok (.iadd, 1) := by decide +kernel
theorem dX2_nextNumber_58 : decode cX2_nextNumber 58 = .ok (.bipush 48, 2) := by decide +kernel
theorem dX2_nextNumber_60 : decode cX2_nextNumber 60 = .ok (.isub, 1) := by decide +kernel
theorem dX2_nextNumber_61 : decode cX2_nextNumber 61 = .ok (.putfield 65, 3) := by decide +kernel
theorem dX2_nextNumber_64 : decode cX2_nextNumber 64 = .ok (.aload_n 0, 1) := by decide +kernel
theorem dX2_nextNumber_65 : decode cX2_nextNumber 65 = .ok (.dup, 1) := by decide +kernel
theorem dX2_nextNumber_66 : decode cX2_nextNumber 66 = .ok (.getfield 25, 3) := by decide +kernel
theorem dX2_nextNumber_69 : decode cX2_nextNumber 69 = .ok (.iconst 1, 1) := by decide +kernel
theorem dX2_nextNumber_70 : decode cX2_nextNumber 70 = .ok (.iadd, 1) := by decide +kernel
theorem dX2_nextNumber_71 : decode cX2_nextNumber 71 = .ok (.putfield 25, 3) := by decide +kernel
theorem dX2_nextNumber_74 : decode cX2_nextNumber 74 = .ok (.goto (-69), 3) := by decide +kernel
theorem dX2_nextNumber_77 : decode cX2_nextNumber 77 = .ok (.aload_n 0, 1) := by decide +kernel
theorem dX2_nextNumber_78 : decode cX2_nextNumber 78 = .ok (.aload_n 0, 1) := by decide +kernel
theorem dX2_nextNumber_79 : decode cX2_nextNumber 79 = .ok (.getfield 25, 3) := by decide +kernel
theorem dX2_nextNumber_82 : decode cX2_nextNumber 82 = .ok (.aload_n 0, 1) := by decide +kernel
theorem dX2_nextNumber_83 : decode cX2_nextNumber 83 = .ok (.getfield 37, 3) := by decide +kernel
theorem dX2_nextNumber_86 : decode cX2_nextNumber 86 = .ok (.isub, 1) := by decide +kernel
theorem dX2_nextNumber_87 : decode cX2_nextNumber 87 = .ok (.iconst 4, 1) := by decide +kernel
theorem dX2_nextNumber_88 : decode cX2_nextNumber 88 = .ok (.if_icmp .le 7, 3) := by decide +kernel
theorem dX2_nextNumber_91 : decode cX2_nextNumber 91 = .ok (.iconst 1, 1) := by decide +kernel
theorem dX2_nextNumber_92 : decode cX2_nextNumber 92 = .ok (.goto 4, 3) := by decide +kernel
theorem dX2_nextNumber_95 : decode cX2_nextNumber 95 = .ok (.iconst 2, 1) := by decide +kernel
theorem dX2_nextNumber_96 : decode cX2_nextNumber 96 = .ok (.putfield 34, 3) := by decide +kernel
theorem dX2_nextNumber_99 : decode cX2_nextNumber 99 = .ok (.return_, 1) := by decide +kernel
theorem dX2_nextWord_0 : decode cX2_nextWord 0 = .ok (.aload_n 0, 1) := by decide +kernel
theorem dX2_nextWord_1 : decode cX2_nextWord 1 = .ok (.getfield 25, 3) := by decide +kernel
theorem dX2_nextWord_4 : decode cX2_nextWord 4 = .ok (.aload_n 0, 1) := by decide +kernel
theorem dX2_nextWord_5 : decode cX2_nextWord 5 = .ok (.getfield 21, 3) := by decide +kernel
theorem dX2_nextWord_8 : decode cX2_nextWord 8 = .ok (.if_icmp .ge 27, 3) := by decide +kernel
theorem dX2_nextWord_11 : decode cX2_nextWord 11 = .ok (.aload_n 0, 1) := by decide +kernel
theorem dX2_nextWord_12 : decode cX2_nextWord 12 = .ok (.aload_n 0, 1) := by decide +kernel
theorem dX2_nextWord_13 : decode cX2_nextWord 13 = .ok (.getfield 25, 3) := by decide +kernel
theorem dX2_nextWord_16 : decode cX2_nextWord 16 = .ok (.invokevirtual 74, 3) := by decide +kernel
theorem dX2_nextWord_19 : decode cX2_nextWord 19 = .ok (.ifCond .eq 16, 3) := by decide +kernel
theorem dX2_nextWord_22 : decode cX2_nextWord 22 = .ok (.aload_n 0, 1) := by decide +kernel
theorem dX2_nextWord_23 : decode cX2_nextWord 23 = .ok (.dup, 1) := by decide +kernel
theorem dX2_nextWord_24 : decode cX2_nextWord 24 = .ok (.getfield 25, 3) := by decide +kernel
theorem dX2_nextWord_27 : decode cX2_nextWord 27 = .ok (.iconst 1, 1) := by decide +kernel
theorem dX2_nextWord_28 : decode cX2_nextWord 28 = .ok (.iadd, 1) := by decide +kernel
theorem dX2_nextWord_29 : decode cX2_nextWord 29 = .ok (.putfield 25, 3) := by decide +kernel
theorem dX2_nextWord_32 : decode cX2_nextWord 32 = .ok (.goto (-32), 3) := by decide +kernel
theorem dX2_nextWord_35 : decode cX2_nextWord 35 = .ok (.aload_n 0, 1) := by decide +kernel
theorem dX2_nextWord_36 : decode cX2_nextWord 36 = .ok (.aload_n 0, 1) := by decide +kernel
theorem dX2_nextWord_37 : decode cX2_nextWord 37 = .ok (.aload_n 0, 1) := by decide +kernel
theorem dX2_nextWord_38 : decode cX2_nextWord 38 = .ok (.getfield 37, 3) := by decide +kernel
theorem dX2_nextWord_41 : decode cX2_nextWord 41 = .ok (.aload_n 0, 1) := by decide +kernel
theorem dX2_nextWord_42 : decode cX2_nextWord 42 = .ok (.getfield 25, 3) := by decide +kernel
theorem dX2_nextWord_45 : decode cX2_nextWord 45 = .ok (.invokevirtual 88, 3) := by decide +kernel
theorem dX2_nextWord_48 : decode cX2_nextWord 48 = .ok (.putfield 65, 3) := by decide +kernel
theorem dX2_nextWord_51 : decode cX2_nextWord 51 = .ok (.aload_n 0, 1) := by decide +kernel
theorem dX2_nextWord_52 : decode cX2_nextWord 52 = .ok (.getfield 65, 3) := by decide +kernel
theorem dX2_nextWord_55 : decode cX2_nextWord 55 = .ok (.iconst (-1), 1) := by decide +kernel
theorem dX2_nextWord_56 : decode cX2_nextWord 56 = .ok (.if_icmp .ne 11, 3) := by decide +kernel
theorem dX2_nextWord_59 : decode cX2_nextWord 59 = .ok (.aload_n 0, 1) := by decide +kernel
theorem dX2_nextWord_60 : decode cX2_nextWord 60 = .ok (.iconst 1, 1) := by decide +kernel
theorem dX2_nextWord_61 : decode cX2_nextWord 61 = .ok (.putfield 34, 3) := by decide +kernel
theorem dX2_nextWord_64 : decode cX2_nextWord 64 = .ok (.goto 29, 3) := by decide +kernel
theorem dX2_nextWord_67 : decode cX2_nextWord 67 = .ok (.aload_n 0, 1) := by decide +kernel
theorem dX2_nextWord_68 : decode cX2_nextWord 68 = .ok (.aload_n 0, 1) := by decide +kernel
theorem dX2_nextWord_69 : decode cX2_nextWord 69 = .ok (.getfield 65, 3) := by decide +kernel
theorem dX2_nextWord_72 : decode cX2_nextWord 72 = .ok (.bipush 6, 2) := by decide +kernel
theorem dX2_nextWord_74 : decode cX2_nextWord 74 = .ok (.if_icmp .ge 7, 3) := by decide +kernel
theorem dX2_nextWord_77 : decode cX2_nextWord 77 = .ok (.iconst 3, 1) := by decide +kernel
theorem dX2_nextWord_78 : decode cX2_nextWord 78 = .ok (.goto 12, 3) := by decide +kernel
theorem dX2_nextWord_81 : decode cX2_nextWord 81 = .ok (.iconst 4, 1) := by decide +kernel
theorem dX2_nextWord_82 : decode cX2_nextWord 82 = .ok (.aload_n 0, 1) := by decide +kernel
theorem dX2_nextWord_83 : decode cX2_nextWord 83 = .ok (.getfield 65, 3) := by decide +kernel
theorem dX2_nextWord_86 : decode cX2_nextWord 86 = .ok (.iadd, 1) := by decide +kernel
theorem dX2_nextWord_87 : decode cX2_nextWord 87 = .ok (.bipush 6, 2) := by decide +kernel
theorem dX2_nextWord_89 : decode cX2_nextWord 89 = .ok (.isub, 1) := by decide +kernel
theorem dX2_nextWord_90 : decode cX2_nextWord 90 = .ok (.putfield 34, 3) := by decide +kernel
theorem dX2_nextWord_93 : decode cX2_nextWord 93 = .ok (.return_, 1) := by decide +kernel
theorem dX2_wordNumber_0 : decode cX2_wordNumber 0 = .ok (.iconst 0, 1) := by decide +kernel
theorem dX2_wordNumber_1 : decode cX2_wordNumber 1 = .ok (.istore_n 3, 1) := by decide +kernel
theorem dX2_wordNumber_2 : decode cX2_wordNumber 2 = .ok (.iload_n 1, 1) := by decide +kernel
theorem dX2_wordNumber_3 : decode cX2_wordNumber 3 = .ok (.istore 4, 2) := by decide +kernel
theorem dX2_wordNumber_5 : decode cX2_wordNumber 5 = .ok (.iconst 1, 1) := by decide +kernel
theorem dX2_wordNumber_6 : decode cX2_wordNumber 6 = .ok (.istore 5, 2) := by decide +kernel
theorem dX2_wordNumber_8 : decode cX2_wordNumber 8 = .ok (.iconst 0, 1) := by decide +kernel
theorem dX2_wordNumber_9 : decode cX2_wordNumber 9 = .ok (.istore 6, 2) := by decide +kernel
theorem dX2_wordNumber_11 : decode cX2_wordNumber 11 = .ok (.iload 6, 2) := by decide +kernel
theorem dX2_wordNumber_13 : decode cX2_wordNumber 13 = .ok (.ldc 92, 2) := by decide +kernel
theorem dX2_wordNumber_15 : decode cX2_wordNumber 15 = .ok (.invokevirtual 94, 3) := by decide +kernel
theorem dX2_wordNumber_18 : decode cX2_wordNumber 18 = .ok (.if_icmp .ge 83, 3) := by decide +kernel
theorem dX2_wordNumber_21 : decode cX2_wordNumber 21 = .ok (.ldc 92, 2) := by decide +kernel
theorem dX2_wordNumber_23 : decode cX2_wordNumber 23 = .ok (.iload 6, 2) := by decide +kernel
theorem dX2_wordNumber_25 : decode cX2_wordNumber 25 = .ok (.invokevirtual 98, 3) := by decide +kernel
theorem dX2_wordNumber_28 : decode cX2_wordNumber 28 = .ok (.istore 7, 2) := by decide +kernel
theorem dX2_wordNumber_30 : decode cX2_wordNumber 30 = .ok (.iload 7, 2) := by decide +kernel
theorem dX2_wordNumber_32 : decode cX2_wordNumber 32 = .ok (.bipush 32, 2) := by decide +kernel
theorem dX2_wordNumber_34 : decode cX2_wordNumber 34 = .ok (.if_icmp .eq 39, 3) := by decide +kernel
theorem dX2_wordNumber_37 : decode cX2_wordNumber 37 = .ok (.iload 5, 2) := by decide +kernel
theorem dX2_wordNumber_39 : decode cX2_wordNumber 39 = .ok (.ifCond .eq 25, 3) := by decide +kernel
theorem dX2_wordNumber_42 : decode cX2_wordNumber 42 = .ok (.iload 4, 2) := by decide +kernel
theorem dX2_wordNumber_44 : decode cX2_wordNumber 44 = .ok (.iload_n 2, 1) := by decide +kernel
theorem dX2_wordNumber_45 : decode cX2_wordNumber 45 = .ok (.if_icmp .ge 19, 3) := by decide +kernel
theorem dX2_wordNumber_48 : decode cX2_wordNumber 48 = .ok (.aload_n 0, 1) := by decide +kernel
theorem dX2_wordNumber_49 : decode cX2_wordNumber 49 = .ok (.getfield 9, 3) := by decide +kernel
theorem dX2_wordNumber_52 : decode cX2_wordNumber 52 = .ok (.iload 4, 2) := by decide +kernel
theorem dX2_wordNumber_54 : decode cX2_wordNumber 54 = .ok (.iaload, 1) := by decide +kernel
theorem dX2_wordNumber_55 : decode cX2_wordNumber 55 = .ok (.iload 7, 2) := by decide +kernel
theorem dX2_wordNumber_57 : decode cX2_wordNumber 57 = .ok (.if_icmp .ne 7, 3) := by decide +kernel
theorem dX2_wordNumber_60 : decode cX2_wordNumber 60 = .ok (.iconst 1, 1) := by decide +kernel
theorem dX2_wordNumber_61 : decode cX2_wordNumber 61 = .ok (.goto 4, 3) := by decide +kernel
theorem dX2_wordNumber_64 : decode cX2_wordNumber 64 = .ok (.iconst 0, 1) := by decide +kernel
theorem dX2_wordNumber_65 : decode cX2_wordNumber 65 = .ok (.istore 5, 2) := by decide +kernel
theorem dX2_wordNumber_67 : decode cX2_wordNumber 67 = .ok (.iinc 4 1, 3) := by decide +kernel
theorem dX2_wordNumber_70 : decode cX2_wordNumber 70 = .ok (.goto 25, 3) := by decide +kernel
theorem dX2_wordNumber_73 : decode cX2_wordNumber 73 = .ok (.iload 5, 2) := by decide +kernel
theorem dX2_wordNumber_75 : decode cX2_wordNumber 75 = .ok (.ifCond .eq 11, 3) := by decide +kernel
theorem dX2_wordNumber_78 : decode cX2_wordNumber 78 = .ok (.iload 4, 2) := by decide +kernel
theorem dX2_wordNumber_80 : decode cX2_wordNumber 80 = .ok (.iload_n 2, 1) := by decide +kernel
theorem dX2_wordNumber_81 : decode cX2_wordNumber 81 = .ok (.if_icmp .ne 5, 3) := by decide +kernel
theorem dX2_wordNumber_84 : decode cX2_wordNumber 84 = .ok (.iload_n 3, 1) := by decide +kernel
theorem dX2_wordNumber_85 : decode cX2_wordNumber 85 = .ok (.ireturn, 1) := by decide +kernel
theorem dX2_wordNumber_86 : decode cX2_wordNumber 86 = .ok (.iinc 3 1, 3) := by decide +kernel
theorem dX2_wordNumber_89 : decode cX2_wordNumber 89 = .ok (.iload_n 1, 1) := by decide +kernel
theorem dX2_wordNumber_90 : decode cX2_wordNumber 90 = .ok (.istore 4, 2) := by decide +kernel
theorem dX2_wordNumber_92 : decode cX2_wordNumber 92 = .ok (.iconst 1, 1) := by decide +kernel
theorem dX2_wordNumber_93 : decode cX2_wordNumber 93 = .ok (.istore 5, 2) := by decide +kernel
theorem dX2_wordNumber_95 : decode cX2_wordNumber 95 = .ok (.iinc 6 1, 3) := by decide +kernel
theorem dX2_wordNumber_98 : decode cX2_wordNumber 98 = .ok (.goto (-87), 3) := by decide +kernel
theorem dX2_wordNumber_101 : decode cX2_wordNumber 101 = .ok (.iconst (-1), 1) := by decide +kernel
theorem dX2_wordNumber_102 : decode cX2_wordNumber 102 = .ok (.ireturn, 1) := by decide +kernel
theorem dX2_isDigit_0 : decode cX2_isDigit 0 = .ok (.aload_n 0, 1) := by decide +kernel
theorem dX2_isDigit_1 : decode cX2_isDigit 1 = .ok (.getfield 9, 3) := by decide +kernel
theorem dX2_isDigit_4 : decode cX2_isDigit 4 = .ok (.iload_n 1, 1) := by decide +kernel
theorem dX2_isDigit_5 : decode cX2_isDigit 5 = .ok (.iaload, 1) := by decide +kernel
theorem dX2_isDigit_6 : decode cX2_isDigit 6 = .ok (.bipush 48, 2) := by decide +kernel
theorem dX2_isDigit_8 : decode cX2_isDigit 8 = .ok (.if_icmp .lt 18, 3) := by decide +kernel
theorem dX2_isDigit_11 : decode cX2_isDigit 11 = .ok (.aload_n 0, 1) := by decide +kernel
theorem dX2_isDigit_12 : decode cX2_isDigit 12 = .ok (.getfield 9, 3) := by decide +kernel
theorem dX2_isDigit_15 : decode cX2_isDigit 15 = .ok (.iload_n 1, 1) := by decide +kernel
theorem dX2_isDigit_16 : decode cX2_isDigit 16 = .ok (.iaload, 1) := by decide +kernel
theorem dX2_isDigit_17 : decode cX2_isDigit 17 = .ok (.bipush 57, 2) := by decide +kernel
theorem dX2_isDigit_19 : decode cX2_isDigit 19 = .ok (.if_icmp .gt 7, 3) := by decide +kernel
theorem dX2_isDigit_22 : decode cX2_isDigit 22 = .ok (.iconst 1, 1) := by decide +kernel
theorem dX2_isDigit_23 : decode cX2_isDigit 23 = .ok (.goto 4, 3) := by decide +kernel
theorem dX2_isDigit_26 : decode cX2_isDigit 26 = .ok (.iconst 0, 1) := by decide +kernel
theorem dX2_isDigit_27 : decode cX2_isDigit 27 = .ok (.ireturn, 1) := by decide +kernel
theorem dX2_isLetter_0 : decode cX2_isLetter 0 = .ok (.aload_n 0, 1) := by decide +kernel
theorem dX2_isLetter_1 : decode cX2_isLetter 1 = .ok (.getfield 9, 3) := by decide +kernel
theorem dX2_isLetter_4 : decode cX2_isLetter 4 = .ok (.iload_n 1, 1) := by decide +kernel
theorem dX2_isLetter_5 : decode cX2_isLetter 5 = .ok (.iaload, 1) := by decide +kernel
theorem dX2_isLetter_6 : decode cX2_isLetter 6 = .ok (.bipush 97, 2) := by decide +kernel
theorem dX2_isLetter_8 : decode cX2_isLetter 8 = .ok (.if_icmp .lt 18, 3) := by decide +kernel
theorem dX2_isLetter_11 : decode cX2_isLetter 11 = .ok (.aload_n 0, 1) := by decide +kernel
theorem dX2_isLetter_12 : decode cX2_isLetter 12 = .ok (.getfield 9, 3) := by decide +kernel
theorem dX2_isLetter_15 : decode cX2_isLetter 15 = .ok (.iload_n 1, 1) := by decide +kernel
theorem dX2_isLetter_16 : decode cX2_isLetter 16 = .ok (.iaload, 1) := by decide +kernel
theorem dX2_isLetter_17 : decode cX2_isLetter 17 = .ok (.bipush 122, 2) := by decide +kernel
theorem dX2_isLetter_19 : decode cX2_isLetter 19 = .ok (.if_icmp .gt 7, 3) := by decide +kernel
theorem dX2_isLetter_22 : decode cX2_isLetter 22 = .ok (.iconst 1, 1) := by decide +kernel
theorem dX2_isLetter_23 : decode cX2_isLetter 23 = .ok (.goto 4, 3) := by decide +kernel
theorem dX2_isLetter_26 : decode cX2_isLetter 26 = .ok (.iconst 0, 1) := by decide +kernel
theorem dX2_isLetter_27 : decode cX2_isLetter 27 = .ok (.ireturn, 1) := by decide +kernel
theorem dX3_init_0 : decode cX3_init 0 = .ok (.aload_n 0, 1) := by decide +kernel
theorem dX3_init_1 : decode cX3_init 1 = .ok (.invokespecial 3, 3) := by decide +kernel
theorem dX3_init_4 : decode cX3_init 4 = .ok (.aload_n 0, 1) := by decide +kernel
theorem dX3_init_5 : decode cX3_init 5 = .ok (.sipush 160, 3) := by decide +kernel
theorem dX3_init_8 : decode cX3_init 8 = .ok (.newarray .int, 2) := by decide +kernel
theorem dX3_init_10 : decode cX3_init 10 = .ok (.putfield 9, 3) := by decide +kernel
theorem dX3_init_13 : decode cX3_init 13 = .ok (.aload_n 0, 1) := by decide +kernel
theorem dX3_init_14 : decode cX3_init 14 = .ok (.iconst 3, 1) := by decide +kernel
theorem dX3_init_15 : decode cX3_init 15 = .ok (.newarray .int, 2) := by decide +kernel
theorem dX3_init_17 : decode cX3_init 17 = .ok (.putfield 15, 3) := by decide +kernel
theorem dX3_init_20 : decode cX3_init 20 = .ok (.aload_n 0, 1) := by decide +kernel
theorem dX3_init_21 : decode cX3_init 21 = .ok (.sipush 160, 3) := by decide +kernel
theorem dX3_init_24 : decode cX3_init 24 = .ok (.newarray .int, 2) := by decide +kernel
theorem dX3_init_26 : decode cX3_init 26 = .ok (.putfield 18, 3) := by decide +kernel
theorem dX3_init_29 : decode cX3_init 29 = .ok (.return_, 1) := by decide +kernel
theorem dX3_become_0 : decode cX3_become 0 = .ok (.iconst 0, 1) := by decide +kernel
theorem dX3_become_1 : decode cX3_become 1 = .ok (.istore_n 2, 1) := by decide +kernel
theorem dX3_become_2 : decode cX3_become 2 = .ok (.iload_n 2, 1) := by decide +kernel
theorem dX3_become_3 : decode cX3_become 3 = .ok (.sipush 160, 3) := by decide +kernel
theorem dX3_become_6 : decode cX3_become 6 = .ok (.if_icmp .ge 21, 3) := by decide +kernel
theorem dX3_become_9 : decode cX3_become 9 = .ok (.aload_n 0, 1) := by decide +kernel
theorem dX3_become_10 : decode cX3_become 10 = .ok (.getfield 9, 3) := by decide +kernel
theorem dX3_become_13 : decode cX3_become 13 = .ok (.iload_n 2, 1) := by decide +kernel
theorem dX3_become_14 : decode cX3_become 14 = .ok (.aload_n 1, 1) := by decide +kernel
theorem dX3_become_15 : decode cX3_become 15 = .ok (.getfield 21, 3) := by decide +kernel
theorem dX3_become_18 : decode cX3_become 18 = .ok (.iload_n 2, 1) := by decide +kernel
theorem dX3_become_19 : decode cX3_become 19 = .ok (.iaload, 1) := by decide +kernel
theorem dX3_become_20 : decode cX3_become 20 = .ok (.iastore, 1) := by decide +kernel
theorem dX3_become_21 : decode cX3_become 21 = .ok (.iinc 2 1, 3) := by decide +kernel
theorem dX3_become_24 : decode cX3_become 24 = .ok (.goto (-22), 3) := by decide +kernel
theorem dX3_become_27 : decode cX3_become 27 = .ok (.iconst 0, 1) := by decide +kernel
theorem dX3_become_28 : decode cX3_become 28 = .ok (.istore_n 2, 1) := by decide +kernel
theorem dX3_become_29 : decode cX3_become 29 = .ok (.iload_n 2, 1) := by decide +kernel
theorem dX3_become_30 : decode cX3_become 30 = .ok (.iconst 3, 1) := by decide +kernel
theorem dX3_become_31 : decode cX3_become 31 = .ok (.if_icmp .ge 21, 3) := by decide +kernel
theorem dX3_become_34 : decode cX3_become 34 = .ok (.aload_n 0, 1) := by decide +kernel
theorem dX3_become_35 : decode cX3_become 35 = .ok (.getfield 15, 3) := by decide +kernel
theorem dX3_become_38 : decode cX3_become 38 = .ok (.iload_n 2, 1) := by decide +kernel
theorem dX3_become_39 : decode cX3_become 39 = .ok (.aload_n 1, 1) := by decide +kernel
theorem dX3_become_40 : decode cX3_become 40 = .ok (.getfield 24, 3) := by decide +kernel
theorem dX3_become_43 : decode cX3_become 43 = .ok (.iload_n 2, 1) := by decide +kernel
theorem dX3_become_44 : decode cX3_become 44 = .ok (.iaload, 1) := by decide +kernel
theorem dX3_become_45 : decode cX3_become 45 = .ok (.iastore, 1) := by decide +kernel
theorem dX3_become_46 : decode cX3_become 46 = .ok (.iinc 2 1, 3) := by decide +kernel
theorem dX3_become_49 : decode cX3_become 49 = .ok (.goto (-20), 3) := by decide +kernel
theorem dX3_become_52 : decode cX3_become 52 = .ok (.return_, 1) := by decide +kernel
theorem dX3_tell_0 : decode cX3_tell 0 = .ok (.iconst 0, 1) := by decide +kernel
theorem dX3_tell_1 : decode cX3_tell 1 = .ok (.istore_n 3, 1) := by decide +kernel
theorem dX3_tell_2 : decode cX3_tell 2 = .ok (.iload_n 1, 1) := by decide +kernel
theorem dX3_tell_3 : decode cX3_tell 3 = .ok (.ifCond .ne 7, 3) := by decide +kernel
theorem dX3_tell_6 : decode cX3_tell 6 = .ok (.iconst 0, 1) := by decide +kernel
theorem dX3_tell_7 : decode cX3_tell 7 = .ok (.goto 11, 3) := by decide +kernel
theorem dX3_tell_10 : decode cX3_tell 10 = .ok (.aload_n 0, 1) := by decide +kernel
theorem dX3_tell_11 : decode cX3_tell 11 = .ok (.getfield 15, 3) := by decide +kernel
theorem dX3_tell_14 : decode cX3_tell 14 = .ok (.iload_n 1, 1) := by decide +kernel
theorem dX3_tell_15 : decode cX3_tell 15 = .ok (.iconst 1, 1) := by decide +kernel
theorem dX3_tell_16 : decode cX3_tell 16 = .ok (.isub, 1) := by decide +kernel
theorem dX3_tell_17 : decode cX3_tell 17 = .ok (.iaload, 1) := by decide +kernel
theorem dX3_tell_18 : decode cX3_tell 18 = .ok (.istore 4, 2) := by decide +kernel
theorem dX3_tell_20 : decode cX3_tell 20 = .ok (.iload 4, 2) := by decide +kernel
theorem dX3_tell_22 : decode cX3_tell 22 = .ok (.aload_n 0, 1) := by decide +kernel
theorem dX3_tell_23 : decode cX3_tell 23 = .ok (.getfield 15, 3) := by decide +kernel
theorem dX3_tell_26 : decode cX3_tell 26 = .ok (.iload_n 1, 1) := by decide +kernel
theorem dX3_tell_27 : decode cX3_tell 27 = .ok (.iaload, 1) := by decide +kernel
theorem dX3_tell_28 : decode cX3_tell 28 = .ok (.if_icmp .ge 149, 3) := by decide +kernel
theorem dX3_tell_31 : decode cX3_tell 31 = .ok (.aload_n 0, 1) := by decide +kernel
theorem dX3_tell_32 : decode cX3_tell 32 = .ok (.getfield 9, 3) := by decide +kernel
theorem dX3_tell_35 : decode cX3_tell 35 = .ok (.iload 4, 2) := by decide +kernel
theorem dX3_tell_37 : decode cX3_tell 37 = .ok (.iaload, 1) := by decide +kernel
theorem dX3_tell_38 : decode cX3_tell 38 = .ok (.istore 5, 2) := by decide +kernel
theorem dX3_tell_40 : decode cX3_tell 40 = .ok (.iload 5, 2) := by decide +kernel
theorem dX3_tell_42 : decode cX3_tell 42 = .ok (.sipush 20000, 3) := by decide +kernel
theorem dX3_tell_45 : decode cX3_tell 45 = .ok (.if_icmp .ge 51, 3) := by decide +kernel
theorem dX3_tell_48 : decode cX3_tell 48 = .ok (.iload 5, 2) := by decide +kernel
theorem dX3_tell_50 : decode cX3_tell 50 = .ok (.sipush 10000, 3) := by decide +kernel
theorem dX3_tell_53 : decode cX3_tell 53 = .ok (.isub, 1) := by decide +kernel
theorem dX3_tell_54 : decode cX3_tell 54 = .ok (.istore 6, 2) := by decide +kernel
theorem dX3_tell_56 : decode cX3_tell 56 = .ok (.iload_n 3, 1) := by decide +kernel
theorem dX3_tell_57 : decode cX3_tell 57 = .ok (.sipush 160, 3) := by decide +kernel
theorem dX3_tell_60 : decode cX3_tell 60 = .ok (.if_icmp .ge 33, 3) := by decide +kernel
theorem dX3_tell_63 : decode cX3_tell 63 = .ok (.iload 6, 2) := by decide +kernel
theorem dX3_tell_65 : decode cX3_tell 65 = .ok (.bipush 6, 2) := by decide +kernel
theorem dX3_tell_67 : decode cX3_tell 67 = .ok (.if_icmp .ge 26, 3) := by decide +kernel
theorem dX3_tell_70 : decode cX3_tell 70 = .ok (.aload_n 0, 1) := by decide +kernel
theorem dX3_tell_71 : decode cX3_tell 71 = .ok (.getfield 18, 3) := by decide +kernel
theorem dX3_tell_74 : decode cX3_tell 74 = .ok (.iload_n 3, 1) := by decide +kernel
theorem dX3_tell_75 : decode cX3_tell 75 = .ok (.iload 6, 2) := by decide +kernel
theorem dX3_tell_77 : decode cX3_tell 77 = .ok (.ifCond .ge 8, 3) := by decide +kernel
theorem dX3_tell_80 : decode cX3_tell 80 = .ok (.iload 5, 2) := by decide +kernel
theorem dX3_tell_82 : decode cX3_tell 82 = .ok (.goto 7, 3) := by decide +kernel
theorem dX3_tell_85 : decode cX3_tell 85 = .ok (.aload_n 2, 1) := by decide +kernel
theorem dX3_tell_86 : decode cX3_tell 86 = .ok (.iload 6, 2) := by decide +kernel
theorem dX3_tell_88 : decode cX3_tell 88 = .ok (.iaload, 1) := by decide +kernel
theorem dX3_tell_89 : decode cX3_tell 89 = .ok (.iastore, 1) := by decide +kernel
theorem dX3_tell_90 : decode cX3_tell 90 = .ok (.iinc 3 1, 3) := by decide +kernel
theorem dX3_tell_93 : decode cX3_tell 93 = .ok (.goto 78, 3) := by decide +kernel
theorem dX3_tell_96 : decode cX3_tell 96 = .ok (.iload 5, 2) := by decide +kernel
theorem dX3_tell_98 : decode cX3_tell 98 = .ok (.sipush 30000, 3) := by decide +kernel
theorem dX3_tell_101 : decode cX3_tell 101 = .ok (.if_icmp .lt 31, 3) := by decide +kernel
theorem dX3_tell_104 : decode cX3_tell 104 = .ok (.iload_n 3, 1) := by decide +kernel
theorem dX3_tell_105 : decode cX3_tell 105 = .ok (.ifCond .le 66, 3) := by decide +kernel
theorem dX3_tell_108 : decode cX3_tell 108 = .ok (.aload_n 0, 1) := by decide +kernel
theorem dX3_tell_109 : decode cX3_tell 109 = .ok (.getfield 18, 3) := by decide +kernel
theorem dX3_tell_112 : decode cX3_tell 112 = .ok (.iload_n 3, 1) := by decide +kernel
theorem dX3_tell_113 : decode cX3_tell 113 = .ok (.iconst 1, 1) := by decide +kernel
theorem dX3_tell_114 : decode cX3_tell 114 = .ok (.isub, 1) := by decide +kernel
theorem dX3_tell_115 : decode cX3_tell 115 = .ok (.iload 5, 2) := by decide +kernel
theorem dX3_tell_117 : decode cX3_tell 117 = .ok (.aload_n 0, 1) := by decide +kernel
theorem dX3_tell_118 : decode cX3_tell 118 = .ok (.getfield 18, 3) := by decide +kernel
theorem dX3_tell_121 : decode cX3_tell 121 = .ok (.iload_n 3, 1) := by decide +kernel
theorem dX3_tell_122 : decode cX3_tell 122 = .ok (.iconst 1, 1) := by decide +kernel
theorem dX3_tell_123 : decode cX3_tell 123 = .ok (.isub, 1) := by decide +kernel
theorem dX3_tell_124 : decode cX3_tell 124 = .ok (.iaload, 1) := by decide +kernel
theorem dX3_tell_125 : decode cX3_tell 125 = .ok (.invokestatic 25, 3) := by decide +kernel
theorem dX3_tell_128 : decode cX3_tell 128 = .ok (.iastore, 1) := by decide +kernel
theorem dX3_tell_129 : decode cX3_tell 129 = .ok (.goto 42, 3) := by decide +kernel
theorem dX3_tell_132 : decode cX3_tell 132 = .ok (.iload_n 3, 1) := by decide +kernel
theorem dX3_tell_133 : decode cX3_tell 133 = .ok (.iconst 1, 1) := by decide +kernel
theorem dX3_tell_134 : decode cX3_tell 134 = .ok (.if_icmp .le 37, 3) := by decide +kernel
theorem dX3_tell_137 : decode cX3_tell 137 = .ok (.iinc 3 (-1), 3) := by decide +kernel
theorem dX3_tell_140 : decode cX3_tell 140 = .ok (.aload_n 0, 1) := by decide +kernel
theorem dX3_tell_141 : decode cX3_tell 141 = .ok (.getfield 18, 3) := by decide +kernel
theorem dX3_tell_144 : decode cX3_tell 144 = .ok (.iload_n 3, 1) := by decide +kernel
theorem dX3_tell_145 : decode cX3_tell 145 = .ok (.iconst 1, 1) := by decide +kernel
theorem dX3_tell_146 : decode cX3_tell 146 = .ok (.isub, 1) := by decide +kernel
theorem dX3_tell_147 : decode cX3_tell 147 = .ok (.iload 5, 2) := by decide +kernel
theorem dX3_tell_149 : decode cX3_tell 149 = .ok (.sipush 20000, 3) := by decide +kernel
theorem dX3_tell_152 : decode cX3_tell 152 = .ok (.isub, 1) := by decide +kernel
theorem dX3_tell_153 : decode cX3_tell 153 = .ok (.aload_n 0, 1) := by decide +kernel
theorem dX3_tell_154 : decode cX3_tell 154 = .ok (.getfield 18, 3) := by decide +kernel
theorem dX3_tell_157 : decode cX3_tell 157 = .ok (.iload_n 3, 1) := by decide +kernel
theorem dX3_tell_158 : decode cX3_tell 158 = .ok (.iconst 1, 1) := by decide +kernel
theorem dX3_tell_159 : decode cX3_tell 159 = .ok (.isub, 1) := by decide +kernel
theorem dX3_tell_160 : decode cX3_tell 160 = .ok (.iaload, 1) := by decide +kernel
theorem dX3_tell_161 : decode cX3_tell 161 = .ok (.aload_n 0, 1) := by decide +kernel
theorem dX3_tell_162 : decode cX3_tell 162 = .ok (.getfield 18, 3) := by decide +kernel
theorem dX3_tell_165 : decode cX3_tell 165 = .ok (.iload_n 3, 1) := by decide +kernel
theorem dX3_tell_166 : decode cX3_tell 166 = .ok (.iaload, 1) := by decide +kernel
theorem dX3_tell_167 : decode cX3_tell 167 = .ok (.invokestatic 29, 3) := by decide +kernel
theorem dX3_tell_170 : decode cX3_tell 170 = .ok (.iastore, 1) := by decide +kernel
theorem dX3_tell_171 : decode cX3_tell 171 = .ok (.iinc 4 1, 3) := by decide +kernel
theorem dX3_tell_174 : decode cX3_tell 174 = .ok (.goto (-154), 3) := by decide +kernel
theorem dX3_tell_177 : decode cX3_tell 177 = .ok (.iload_n 3, 1) := by decide +kernel
theorem dX3_tell_178 : decode cX3_tell 178 = .ok (.ifCond .le 12, 3) := by decide +kernel
theorem dX3_tell_181 : decode cX3_tell 181 = .ok (.aload_n 0, 1) := by decide +kernel
theorem dX3_tell_182 : decode cX3_tell 182 = .ok (.getfield 18, 3) := by decide +kernel
theorem dX3_tell_185 : decode cX3_tell 185 = .ok (.iconst 0, 1) := by decide +kernel
theorem dX3_tell_186 : decode cX3_tell 186 = .ok (.iaload, 1) := by decide +kernel
theorem dX3_tell_187 : decode cX3_tell 187 = .ok (.goto 4, 3) := by decide +kernel
theorem dX3_tell_190 : decode cX3_tell 190 = .ok (.iconst 0, 1) := by decide +kernel
theorem dX3_tell_191 : decode cX3_tell 191 = .ok (.ireturn, 1) := by decide +kernel
theorem dX3_changed_0 : decode cX3_changed 0 = .ok (.iload_n 0, 1) := by decide +kernel
theorem dX3_changed_1 : decode cX3_changed 1 = .ok (.sipush 30000, 3) := by decide +kernel
theorem dX3_changed_4 : decode cX3_changed 4 = .ok (.if_icmp .ne 6, 3) := by decide +kernel
theorem dX3_changed_7 : decode cX3_changed 7 = .ok (.iload_n 1, 1) := by decide +kernel
theorem dX3_changed_8 : decode cX3_changed 8 = .ok (.ineg, 1) := by decide +kernel
theorem dX3_changed_9 : decode cX3_changed 9 = .ok (.ireturn, 1) := by decide +kernel
theorem dX3_changed_10 : decode cX3_changed 10 = .ok (.iload_n 1, 1) := by decide +kernel
theorem dX3_changed_11 : decode cX3_changed 11 = .ok (.ifCond .ne 7, 3) := by decide +kernel
theorem dX3_changed_14 : decode cX3_changed 14 = .ok (.iconst 1, 1) := by decide +kernel
theorem dX3_changed_15 : decode cX3_changed 15 = .ok (.goto 4, 3) := by decide +kernel
theorem dX3_changed_18 : decode cX3_changed 18 = .ok (.iconst 0, 1) := by decide +kernel
theorem dX3_changed_19 : decode cX3_changed 19 = .ok (.ireturn, 1) := by decide +kernel
theorem dX3_joined_0 : decode cX3_joined 0 = .ok (.iload_n 0, 1) := by decide +kernel
theorem dX3_joined_1 : decode cX3_joined 1 = .ok (.lookupswitch 117 #[(7, 59), (8, 73), (43, 109), (45, 113), (60, 87), (61, 98)], 59) := by decide +kernel
theorem dX3_joined_60 : decode cX3_joined 60 = .ok (.iload_n 1, 1) := by decide +kernel
theorem dX3_joined_61 : decode cX3_joined 61 = .ok (.ifCond .ne 7, 3) := by decide +kernel
theorem dX3_joined_64 : decode cX3_joined 64 = .ok (.iload_n 2, 1) := by decide +kernel
theorem dX3_joined_65 : decode cX3_joined 65 = .ok (.ifCond .eq 7, 3) := by decide +kernel
theorem dX3_joined_68 : decode cX3_joined 68 = .ok (.iconst 1, 1) := by decide +kernel
theorem dX3_joined_69 : decode cX3_joined 69 = .ok (.goto 4, 3) := by decide +kernel
theorem dX3_joined_72 : decode cX3_joined 72 = .ok (.iconst 0, 1) := by decide +kernel
theorem dX3_joined_73 : decode cX3_joined 73 = .ok (.ireturn, 1) := by decide +kernel
theorem dX3_joined_74 : decode cX3_joined 74 = .ok (.iload_n 1, 1) := by decide +kernel
theorem dX3_joined_75 : decode cX3_joined 75 = .ok (.ifCond .eq 11, 3) := by decide +kernel
theorem dX3_joined_78 : decode cX3_joined 78 = .ok (.iload_n 2, 1) := by decide +kernel
theorem dX3_joined_79 : decode cX3_joined 79 = .ok (.ifCond .eq 7, 3) := by decide +kernel
theorem dX3_joined_82 : decode cX3_joined 82 = .ok (.iconst 1, 1) := by decide +kernel
theorem dX3_joined_83 : decode cX3_joined 83 = .ok (.goto 4, 3) := by decide +kernel
theorem dX3_joined_86 : decode cX3_joined 86 = .ok (.iconst 0, 1) := by decide +kernel
theorem dX3_joined_87 : decode cX3_joined 87 = .ok (.ireturn, 1) := by decide +kernel
theorem dX3_joined_88 : decode cX3_joined 88 = .ok (.iload_n 1, 1) := by decide +kernel
theorem dX3_joined_89 : decode cX3_joined 89 = .ok (.iload_n 2, 1) := by decide +kernel
theorem dX3_joined_90 : decode cX3_joined 90 = .ok (.if_icmp .ge 7, 3) := by decide +kernel
theorem dX3_joined_93 : decode cX3_joined 93 = .ok (.iconst 1, 1) := by decide +kernel
theorem dX3_joined_94 : decode cX3_joined 94 = .ok (.goto 4, 3) := by decide +kernel
theorem dX3_joined_97 : decode cX3_joined 97 = .ok (.iconst 0, 1) := by decide +kernel
theorem dX3_joined_98 : decode cX3_joined 98 = .ok (.ireturn, 1) := by decide +kernel
theorem dX3_joined_99 : decode cX3_joined 99 = .ok (.iload_n 1, 1) := by decide +kernel
theorem dX3_joined_100 : decode cX3_joined 100 = .ok (.iload_n 2, 1) := by decide +kernel
theorem dX3_joined_101 : decode cX3_joined 101 = .ok (.if_icmp .ne 7, 3) := by decide +kernel
theorem dX3_joined_104 : decode cX3_joined 104 = .ok (.iconst 1, 1) := by decide +kernel
theorem dX3_joined_105 : decode cX3_joined 105 = .ok (.goto 4, 3) := by decide +kernel
theorem dX3_joined_108 : decode cX3_joined 108 = .ok (.iconst 0, 1) := by decide +kernel
theorem dX3_joined_109 : decode cX3_joined 109 = .ok (.ireturn, 1) := by decide +kernel
theorem dX3_joined_110 : decode cX3_joined 110 = .ok (.iload_n 1, 1) := by decide +kernel
theorem dX3_joined_111 : decode cX3_joined 111 = .ok (.iload_n 2, 1) := by decide +kernel
theorem dX3_joined_112 : decode cX3_joined 112 = .ok (.iadd, 1) := by decide +kernel
theorem dX3_joined_113 : decode cX3_joined 113 = .ok (.ireturn, 1) := by decide +kernel
theorem dX3_joined_114 : decode cX3_joined 114 = .ok (.iload_n 1, 1) := by decide +kernel
theorem dX3_joined_115 : decode cX3_joined 115 = .ok (.iload_n 2, 1) := by decide +kernel
theorem dX3_joined_116 : decode cX3_joined 116 = .ok (.isub, 1) := by decide +kernel
theorem dX3_joined_117 : decode cX3_joined 117 = .ok (.ireturn, 1) := by decide +kernel
theorem dX3_joined_118 : decode cX3_joined 118 = .ok (.iload_n 1, 1) := by decide +kernel
theorem dX3_joined_119 : decode cX3_joined 119 = .ok (.iload_n 2, 1) := by decide +kernel
theorem dX3_joined_120 : decode cX3_joined 120 = .ok (.imul, 1) := by decide +kernel
theorem dX3_joined_121 : decode cX3_joined 121 = .ok (.ireturn, 1) := by decide +kernel
theorem dX4_init_0 : decode cX4_init 0 = .ok (.aload_n 0, 1) := by decide +kernel
theorem dX4_init_1 : decode cX4_init 1 = .ok (.invokespecial 3, 3) := by decide +kernel
theorem dX4_init_4 : decode cX4_init 4 = .ok (.aload_n 0, 1) := by decide +kernel
theorem dX4_init_5 : decode cX4_init 5 = .ok (.iconst 5, 1) := by decide +kernel
theorem dX4_init_6 : decode cX4_init 6 = .ok (.newarray .int, 2) := by decide +kernel
theorem dX4_init_8 : decode cX4_init 8 = .ok (.putfield 9, 3) := by decide +kernel
theorem dX4_init_11 : decode cX4_init 11 = .ok (.aload_n 0, 1) := by decide +kernel
theorem dX4_init_12 : decode cX4_init 12 = .ok (.iconst 5, 1) := by decide +kernel
theorem dX4_init_13 : decode cX4_init 13 = .ok (.newarray .int, 2) := by decide +kernel
theorem dX4_init_15 : decode cX4_init 15 = .ok (.putfield 15, 3) := by decide +kernel
theorem dX4_init_18 : decode cX4_init 18 = .ok (.aload_n 0, 1) := by decide +kernel
theorem dX4_init_19 : decode cX4_init 19 = .ok (.iconst 5, 1) := by decide +kernel
theorem dX4_init_20 : decode cX4_init 20 = .ok (.newarray .int, 2) := by decide +kernel
theorem dX4_init_22 : decode cX4_init 22 = .ok (.putfield 18, 3) := by decide +kernel
theorem dX4_init_25 : decode cX4_init 25 = .ok (.aload_n 0, 1) := by decide +kernel
theorem dX4_init_26 : decode cX4_init 26 = .ok (.iconst 5, 1) := by decide +kernel
theorem dX4_init_27 : decode cX4_init 27 = .ok (.newarray .int, 2) := by decide +kernel
theorem dX4_init_29 : decode cX4_init 29 = .ok (.putfield 21, 3) := by decide +kernel
theorem dX4_init_32 : decode cX4_init 32 = .ok (.aload_n 0, 1) := by decide +kernel
theorem dX4_init_33 : decode cX4_init 33 = .ok (.iconst 5, 1) := by decide +kernel
theorem dX4_init_34 : decode cX4_init 34 = .ok (.newarray .int, 2) := by decide +kernel
theorem dX4_init_36 : decode cX4_init 36 = .ok (.putfield 24, 3) := by decide +kernel
theorem dX4_init_39 : decode cX4_init 39 = .ok (.aload_n 0, 1) := by decide +kernel
theorem dX4_init_40 : decode cX4_init 40 = .ok (.bipush 6, 2) := by decide +kernel
theorem dX4_init_42 : decode cX4_init 42 = .ok (.newarray .int, 2) := by decide +kernel
theorem dX4_init_44 : decode cX4_init 44 = .ok (.putfield 27, 3) := by decide +kernel
theorem dX4_init_47 : decode cX4_init 47 = .ok (.aload_n 0, 1) := by decide +kernel
theorem dX4_init_48 : decode cX4_init 48 = .ok (.aload_n 1, 1) := by decide +kernel
theorem dX4_init_49 : decode cX4_init 49 = .ok (.putfield 30, 3) := by decide +kernel
theorem dX4_init_52 : decode cX4_init 52 = .ok (.return_, 1) := by decide +kernel
theorem dX4_become_0 : decode cX4_become 0 = .ok (.aload_n 0, 1) := by decide +kernel
theorem dX4_become_1 : decode cX4_become 1 = .ok (.aload_n 1, 1) := by decide +kernel
theorem dX4_become_2 : decode cX4_become 2 = .ok (.getfield 34, 3) := by decide +kernel
theorem dX4_become_5 : decode cX4_become 5 = .ok (.putfield 34, 3) := by decide +kernel
theorem dX4_become_8 : decode cX4_become 8 = .ok (.aload_n 0, 1) := by decide +kernel
theorem dX4_become_9 : decode cX4_become 9 = .ok (.aload_n 1, 1) := by decide +kernel
theorem dX4_become_10 : decode cX4_become 10 = .ok (.getfield 38, 3) := by decide +kernel
theorem dX4_become_13 : decode cX4_become 13 = .ok (.putfield 38, 3) := by decide +kernel
theorem dX4_become_16 : decode cX4_become 16 = .ok (.aload_n 0, 1) := by decide +kernel
theorem dX4_become_17 : decode cX4_become 17 = .ok (.aload_n 1, 1) := by decide +kernel
theorem dX4_become_18 : decode cX4_become 18 = .ok (.getfield 41, 3) := by decide +kernel
theorem dX4_become_21 : decode cX4_become 21 = .ok (.putfield 41, 3) := by decide +kernel
theorem dX4_become_24 : decode cX4_become 24 = .ok (.aload_n 0, 1) := by decide +kernel
theorem dX4_become_25 : decode cX4_become 25 = .ok (.aload_n 1, 1) := by decide +kernel
theorem dX4_become_26 : decode cX4_become 26 = .ok (.getfield 44, 3) := by decide +kernel
theorem dX4_become_29 : decode cX4_become 29 = .ok (.putfield 44, 3) := by decide +kernel
theorem dX4_become_32 : decode cX4_become 32 = .ok (.iconst 0, 1) := by decide +kernel
theorem dX4_become_33 : decode cX4_become 33 = .ok (.istore_n 2, 1) := by decide +kernel
theorem dX4_become_34 : decode cX4_become 34 = .ok (.iload_n 2, 1) := by decide +kernel
theorem dX4_become_35 : decode cX4_become 35 = .ok (.iconst 5, 1) := by decide +kernel
theorem dX4_become_36 : decode cX4_become 36 = .ok (.if_icmp .ge 57, 3) := by decide +kernel
theorem dX4_become_39 : decode cX4_become 39 = .ok (.aload_n 0, 1) := by decide +kernel
theorem dX4_become_40 : decode cX4_become 40 = .ok (.getfield 9, 3) := by decide +kernel
theorem dX4_become_43 : decode cX4_become 43 = .ok (.iload_n 2, 1) := by decide +kernel
theorem dX4_become_44 : decode cX4_become 44 = .ok (.aload_n 1, 1) := by decide +kernel
theorem dX4_become_45 : decode cX4_become 45 = .ok (.getfield 9, 3) := by decide +kernel
theorem dX4_become_48 : decode cX4_become 48 = .ok (.iload_n 2, 1) := by decide +kernel
theorem dX4_become_49 : decode cX4_become 49 = .ok (.iaload, 1) := by decide +kernel
theorem dX4_become_50 : decode cX4_become 50 = .ok (.iastore, 1) := by decide +kernel
theorem dX4_become_51 : decode cX4_become 51 = .ok (.aload_n 0, 1) := by decide +kernel
theorem dX4_become_52 : decode cX4_become 52 = .ok (.getfield 15, 3) := by decide +kernel
theorem dX4_become_55 : decode cX4_become 55 = .ok (.iload_n 2, 1) := by decide +kernel
theorem dX4_become_56 : decode cX4_become 56 = .ok (.aload_n 1, 1) := by decide +kernel
theorem dX4_become_57 : decode cX4_become 57 = .ok (.getfield 15, 3) := by decide +kernel
theorem dX4_become_60 : decode cX4_become 60 = .ok (.iload_n 2, 1) := by decide +kernel
theorem dX4_become_61 : decode cX4_become 61 = .ok (.iaload, 1) := by decide +kernel
theorem dX4_become_62 : decode cX4_become 62 = .ok (.iastore, 1) := by decide +kernel
theorem dX4_become_63 : decode cX4_become 63 = .ok (.aload_n 0, 1) := by decide +kernel
theorem dX4_become_64 : decode cX4_become 64 = .ok (.getfield 18, 3) := by decide +kernel
theorem dX4_become_67 : decode cX4_become 67 = .ok (.iload_n 2, 1) := by decide +kernel
theorem dX4_become_68 : decode cX4_become 68 = .ok (.aload_n 1, 1) := by decide +kernel
theorem dX4_become_69 : decode cX4_become 69 = .ok (.getfield 18, 3) := by decide +kernel
theorem dX4_become_72 : decode cX4_become 72 = .ok (.iload_n 2, 1) := by decide +kernel
theorem dX4_become_73 : decode cX4_become 73 = .ok (.iaload, 1) := by decide +kernel
theorem dX4_become_74 : decode cX4_become 74 = .ok (.iastore, 1) := by decide +kernel
theorem dX4_become_75 : decode cX4_become 75 = .ok (.aload_n 0, 1) := by decide +kernel
theorem dX4_become_76 : decode cX4_become 76 = .ok (.getfield 21, 3) := by decide +kernel
theorem dX4_become_79 : decode cX4_become 79 = .ok (.iload_n 2, 1) := by decide +kernel
theorem dX4_become_80 : decode cX4_become 80 = .ok (.aload_n 1, 1) := by decide +kernel
theorem dX4_become_81 : decode cX4_become 81 = .ok (.getfield 21, 3) := by decide +kernel
theorem dX4_become_84 : decode cX4_become 84 = .ok (.iload_n 2, 1) := by decide +kernel
theorem dX4_become_85 : decode cX4_become 85 = .ok (.iaload, 1) := by decide +kernel
theorem dX4_become_86 : decode cX4_become 86 = .ok (.iastore, 1) := by decide +kernel
theorem dX4_become_87 : decode cX4_become 87 = .ok (.iinc 2 1, 3) := by decide +kernel
theorem dX4_become_90 : decode cX4_become 90 = .ok (.goto (-56), 3) := by decide +kernel
theorem dX4_become_93 : decode cX4_become 93 = .ok (.return_, 1) := by decide +kernel
theorem dX4_canBe_0 : decode cX4_canBe 0 = .ok (.iload_n 0, 1) := by decide +kernel
theorem dX4_canBe_1 : decode cX4_canBe 1 = .ok (.iconst 0, 1) := by decide +kernel
theorem dX4_canBe_2 : decode cX4_canBe 2 = .ok (.iconst 5, 1) := by decide +kernel
theorem dX4_canBe_3 : decode cX4_canBe 3 = .ok (.invokestatic 47, 3) := by decide +kernel
theorem dX4_canBe_6 : decode cX4_canBe 6 = .ok (.ifCond .eq 28, 3) := by decide +kernel
theorem dX4_canBe_9 : decode cX4_canBe 9 = .ok (.iload_n 1, 1) := by decide +kernel
theorem dX4_canBe_10 : decode cX4_canBe 10 = .ok (.iconst 0, 1) := by decide +kernel
theorem dX4_canBe_11 : decode cX4_canBe 11 = .ok (.bipush 9, 2) := by decide +kernel
theorem dX4_canBe_13 : decode cX4_canBe 13 = .ok (.invokestatic 47, 3) := by decide +kernel
theorem dX4_canBe_16 : decode cX4_canBe 16 = .ok (.ifCond .eq 18, 3) := by decide +kernel
theorem dX4_canBe_19 : decode cX4_canBe 19 = .ok (.iload_n 2, 1) := by decide +kernel
theorem dX4_canBe_20 : decode cX4_canBe 20 = .ok (.iconst 0, 1) := by decide +kernel
theorem dX4_canBe_21 : decode cX4_canBe 21 = .ok (.sipush 999, 3) := by decide +kernel
theorem dX4_canBe_24 : decode cX4_canBe 24 = .ok (.invokestatic 47, 3) := by decide +kernel
theorem dX4_canBe_27 : decode cX4_canBe 27 = .ok (.ifCond .eq 7, 3) := by decide +kernel
theorem dX4_canBe_30 : decode cX4_canBe 30 = .ok (.iconst 1, 1) := by decide +kernel
theorem dX4_canBe_31 : decode cX4_canBe 31 = .ok (.goto 4, 3) := by decide +kernel
theorem dX4_canBe_34 : decode cX4_canBe 34 = .ok (.iconst 0, 1) := by decide +kernel
theorem dX4_canBe_35 : decode cX4_canBe 35 = .ok (.ireturn, 1) := by decide +kernel
theorem dX4_come_0 : decode cX4_come 0 = .ok (.aload_n 0, 1) := by decide +kernel
theorem dX4_come_1 : decode cX4_come 1 = .ok (.getfield 34, 3) := by decide +kernel
theorem dX4_come_4 : decode cX4_come 4 = .ok (.iconst 5, 1) := by decide +kernel
theorem dX4_come_5 : decode cX4_come 5 = .ok (.if_icmp .lt 6, 3) := by decide +kernel
theorem dX4_come_8 : decode cX4_come 8 = .ok (.bipush (-4), 2) := by decide +kernel
theorem dX4_come_10 : decode cX4_come 10 = .ok (.ireturn, 1) := by decide +kernel
theorem dX4_come_11 : decode cX4_come 11 = .ok (.aload_n 0, 1) := by decide +kernel
theorem dX4_come_12 : decode cX4_come 12 = .ok (.getfield 9, 3) := by decide +kernel
theorem dX4_come_15 : decode cX4_come 15 = .ok (.aload_n 0, 1) := by decide +kernel
theorem dX4_come_16 : decode cX4_come 16 = .ok (.getfield 34, 3) := by decide +kernel
theorem dX4_come_19 : decode cX4_come 19 = .ok (.iload_n 1, 1) := by decide +kernel
theorem dX4_come_20 : decode cX4_come 20 = .ok (.iastore, 1) := by decide +kernel
theorem dX4_come_21 : decode cX4_come 21 = .ok (.aload_n 0, 1) := by decide +kernel
theorem dX4_come_22 : decode cX4_come 22 = .ok (.getfield 15, 3) := by decide +kernel
theorem dX4_come_25 : decode cX4_come 25 = .ok (.aload_n 0, 1) := by decide +kernel
theorem dX4_come_26 : decode cX4_come 26 = .ok (.getfield 34, 3) := by decide +kernel
theorem dX4_come_29 : decode cX4_come 29 = .ok (.iload_n 2, 1) := by decide +kernel
theorem dX4_come_30 : decode cX4_come 30 = .ok (.iastore, 1) := by decide +kernel
theorem dX4_come_31 : decode cX4_come 31 = .ok (.aload_n 0, 1) := by decide +kernel
theorem dX4_come_32 : decode cX4_come 32 = .ok (.getfield 18, 3) := by decide +kernel
theorem dX4_come_35 : decode cX4_come 35 = .ok (.aload_n 0, 1) := by decide +kernel
theorem dX4_come_36 : decode cX4_come 36 = .ok (.getfield 34, 3) := by decide +kernel
theorem dX4_come_39 : decode cX4_come 39 = .ok (.iload_n 3, 1) := by decide +kernel
theorem dX4_come_40 : decode cX4_come 40 = .ok (.iastore, 1) := by decide +kernel
theorem dX4_come_41 : decode cX4_come 41 = .ok (.aload_n 0, 1) := by decide +kernel
theorem dX4_come_42 : decode cX4_come 42 = .ok (.getfield 21, 3) := by decide +kernel
theorem dX4_come_45 : decode cX4_come 45 = .ok (.aload_n 0, 1) := by decide +kernel
theorem dX4_come_46 : decode cX4_come 46 = .ok (.getfield 34, 3) := by decide +kernel
theorem dX4_come_49 : decode cX4_come 49 = .ok (.iconst 0, 1) := by decide +kernel
theorem dX4_come_50 : decode cX4_come 50 = .ok (.iastore, 1) := by decide +kernel
theorem dX4_come_51 : decode cX4_come 51 = .ok (.aload_n 0, 1) := by decide +kernel
theorem dX4_come_52 : decode cX4_come 52 = .ok (.dup, 1) := by decide +kernel
theorem dX4_come_53 : decode cX4_come 53 = .ok (.getfield 34, 3) := by decide +kernel
theorem dX4_come_56 : decode cX4_come 56 = .ok (.iconst 1, 1) := by decide +kernel
theorem dX4_come_57 : decode cX4_come 57 = .ok (.iadd, 1) := by decide +kernel
theorem dX4_come_58 : decode cX4_come 58 = .ok (.putfield 34, 3) := by decide +kernel
theorem dX4_come_61 : decode cX4_come 61 = .ok (.aload_n 0, 1) := by decide +kernel
theorem dX4_come_62 : decode cX4_come 62 = .ok (.getfield 34, 3) := by decide +kernel
theorem dX4_come_65 : decode cX4_come 65 = .ok (.iconst 1, 1) := by decide +kernel
theorem dX4_come_66 : decode cX4_come 66 = .ok (.isub, 1) := by decide +kernel
theorem dX4_come_67 : decode cX4_come 67 = .ok (.ireturn, 1) := by decide +kernel
theorem dX4_has_0 : decode cX4_has 0 = .ok (.iload_n 1, 1) := by decide +kernel
theorem dX4_has_1 : decode cX4_has 1 = .ok (.ifCond .lt 15, 3) := by decide +kernel
theorem dX4_has_4 : decode cX4_has 4 = .ok (.iload_n 1, 1) := by decide +kernel
theorem dX4_has_5 : decode cX4_has 5 = .ok (.aload_n 0, 1) := by decide +kernel
theorem dX4_has_6 : decode cX4_has 6 = .ok (.getfield 34, 3) := by decide +kernel
theorem dX4_has_9 : decode cX4_has 9 = .ok (.if_icmp .ge 7, 3) := by decide +kernel
theorem dX4_has_12 : decode cX4_has 12 = .ok (.iconst 1, 1) := by decide +kernel
theorem dX4_has_13 : decode cX4_has 13 = .ok (.goto 4, 3) := by decide +kernel
theorem dX4_has_16 : decode cX4_has 16 = .ok (.iconst 0, 1) := by decide +kernel
theorem dX4_has_17 : decode cX4_has 17 = .ok (.ireturn, 1) := by decide +kernel
theorem dX4_runsOf_0 : decode cX4_runsOf 0 = .ok (.aload_n 0, 1) := by decide +kernel
theorem dX4_runsOf_1 : decode cX4_runsOf 1 = .ok (.iconst 0, 1) := by decide +kernel
theorem dX4_runsOf_2 : decode cX4_runsOf 2 = .ok (.iload_n 1, 1) := by decide +kernel
theorem dX4_runsOf_3 : decode cX4_runsOf 3 = .ok (.invokevirtual 51, 3) := by decide +kernel
theorem dX4_runsOf_6 : decode cX4_runsOf 6 = .ok (.iconst 0, 1) := by decide +kernel
theorem dX4_runsOf_7 : decode cX4_runsOf 7 = .ok (.bipush 99, 2) := by decide +kernel
theorem dX4_runsOf_9 : decode cX4_runsOf 9 = .ok (.invokestatic 55, 3) := by decide +kernel
theorem dX4_runsOf_12 : decode cX4_runsOf 12 = .ok (.istore_n 2, 1) := by decide +kernel
theorem dX4_runsOf_13 : decode cX4_runsOf 13 = .ok (.aload_n 0, 1) := by decide +kernel
theorem dX4_runsOf_14 : decode cX4_runsOf 14 = .ok (.getfield 9, 3) := by decide +kernel
theorem dX4_runsOf_17 : decode cX4_runsOf 17 = .ok (.iload_n 1, 1) := by decide +kernel
theorem dX4_runsOf_18 : decode cX4_runsOf 18 = .ok (.iaload, 1) := by decide +kernel
theorem dX4_runsOf_19 : decode cX4_runsOf 19 = .ok (.tableswitch 102 1 5 #[33, 40, 47, 64, 92], 33) := by decide +kernel
theorem dX4_runsOf_52 : decode cX4_runsOf 52 = .ok (.iload_n 2, 1) := by decide +kernel
theorem dX4_runsOf_53 : decode cX4_runsOf 53 = .ok (.iconst 1, 1) := by decide +kernel
theorem dX4_runsOf_54 : decode cX4_runsOf 54 = .ok (.iadd, 1) := by decide +kernel
theorem dX4_runsOf_55 : decode cX4_runsOf 55 = .ok (.istore_n 3, 1) := by decide +kernel
theorem dX4_runsOf_56 : decode cX4_runsOf 56 = .ok (.goto 67, 3) := by decide +kernel
theorem dX4_runsOf_59 : decode cX4_runsOf 59 = .ok (.iload_n 2, 1) := by decide +kernel
theorem dX4_runsOf_60 : decode cX4_runsOf 60 = .ok (.iconst 2, 1) := by decide +kernel
theorem dX4_runsOf_61 : decode cX4_runsOf 61 = .ok (.idiv, 1) := by decide +kernel
theorem dX4_runsOf_62 : decode cX4_runsOf 62 = .ok (.istore_n 3, 1) := by decide +kernel
theorem dX4_runsOf_63 : decode cX4_runsOf 63 = .ok (.goto 60, 3) := by decide +kernel
theorem dX4_runsOf_66 : decode cX4_runsOf 66 = .ok (.iload_n 2, 1) := by decide +kernel
theorem dX4_runsOf_67 : decode cX4_runsOf 67 = .ok (.iconst 1, 1) := by decide +kernel
theorem dX4_runsOf_68 : decode cX4_runsOf 68 = .ok (.iadd, 1) := by decide +kernel
theorem dX4_runsOf_69 : decode cX4_runsOf 69 = .ok (.aload_n 0, 1) := by decide +kernel
theorem dX4_runsOf_70 : decode cX4_runsOf 70 = .ok (.getfield 21, 3) := by decide +kernel
theorem dX4_runsOf_73 : decode cX4_runsOf 73 = .ok (.iload_n 1, 1) := by decide +kernel
theorem dX4_runsOf_74 : decode cX4_runsOf 74 = .ok (.iaload, 1) := by decide +kernel
theorem dX4_runsOf_75 : decode cX4_runsOf 75 = .ok (.bipush 10, 2) := by decide +kernel
theorem dX4_runsOf_77 : decode cX4_runsOf 77 = .ok (.idiv, 1) := by decide +kernel
theorem dX4_runsOf_78 : decode cX4_runsOf 78 = .ok (.isub, 1) := by decide +kernel
theorem dX4_runsOf_79 : decode cX4_runsOf 79 = .ok (.istore_n 3, 1) := by decide +kernel
theorem dX4_runsOf_80 : decode cX4_runsOf 80 = .ok (.goto 43, 3) := by decide +kernel
theorem dX4_runsOf_83 : decode cX4_runsOf 83 = .ok (.aload_n 0, 1) := by decide +kernel
theorem dX4_runsOf_84 : decode cX4_runsOf 84 = .ok (.getfield 38, 3) := by decide +kernel
theorem dX4_runsOf_87 : decode cX4_runsOf 87 = .ok (.bipush 7, 2) := by decide +kernel
theorem dX4_runsOf_89 : decode cX4_runsOf 89 = .ok (.irem, 1) := by decide +kernel
theorem dX4_runsOf_90 : decode cX4_runsOf 90 = .ok (.aload_n 0, 1) := by decide +kernel
theorem dX4_runsOf_91 : decode cX4_runsOf 91 = .ok (.getfield 15, 3) := by decide +kernel
theorem dX4_runsOf_94 : decode cX4_runsOf 94 = .ok (.iload_n 1, 1) := by decide +kernel
theorem dX4_runsOf_95 : decode cX4_runsOf 95 = .ok (.iaload, 1) := by decide +kernel
theorem dX4_runsOf_96 : decode cX4_runsOf 96 = .ok (.if_icmp .ne 8, 3) := by decide +kernel
theorem dX4_runsOf_99 : decode cX4_runsOf 99 = .ok (.bipush 9, 2) := by decide +kernel
theorem dX4_runsOf_101 : decode cX4_runsOf 101 = .ok (.goto 6, 3) := by decide +kernel
theorem dX4_runsOf_104 : decode cX4_runsOf 104 = .ok (.iload_n 2, 1) := by decide +kernel
theorem dX4_runsOf_105 : decode cX4_runsOf 105 = .ok (.iconst 2, 1) := by decide +kernel
theorem dX4_runsOf_106 : decode cX4_runsOf 106 = .ok (.idiv, 1) := by decide +kernel
theorem dX4_runsOf_107 : decode cX4_runsOf 107 = .ok (.istore_n 3, 1) := by decide +kernel
theorem dX4_runsOf_108 : decode cX4_runsOf 108 = .ok (.goto 15, 3) := by decide +kernel
theorem dX4_runsOf_111 : decode cX4_runsOf 111 = .ok (.aload_n 0, 1) := by decide +kernel
theorem dX4_runsOf_112 : decode cX4_runsOf 112 = .ok (.getfield 15, 3) := by decide +kernel
theorem dX4_runsOf_115 : decode cX4_runsOf 115 = .ok (.iload_n 1, 1) := by decide +kernel
theorem dX4_runsOf_116 : decode cX4_runsOf 116 = .ok (.iaload, 1) := by decide +kernel
theorem dX4_runsOf_117 : decode cX4_runsOf 117 = .ok (.istore_n 3, 1) := by decide +kernel
theorem dX4_runsOf_118 : decode cX4_runsOf 118 = .ok (.goto 5, 3) := by decide +kernel
theorem dX4_runsOf_121 : decode cX4_runsOf 121 = .ok (.iload_n 2, 1) := by decide +kernel
theorem dX4_runsOf_122 : decode cX4_runsOf 122 = .ok (.istore_n 3, 1) := by decide +kernel
theorem dX4_runsOf_123 : decode cX4_runsOf 123 = .ok (.iload_n 3, 1) := by decide +kernel
theorem dX4_runsOf_124 : decode cX4_runsOf 124 = .ok (.iconst 0, 1) := by decide +kernel
theorem dX4_runsOf_125 : decode cX4_runsOf 125 = .ok (.bipush 9, 2) := by decide +kernel
theorem dX4_runsOf_127 : decode cX4_runsOf 127 = .ok (.invokestatic 55, 3) := by decide +kernel
theorem dX4_runsOf_130 : decode cX4_runsOf 130 = .ok (.ireturn, 1) := by decide +kernel
theorem dX4_clogsOf_0 : decode cX4_clogsOf 0 = .ok (.aload_n 0, 1) := by decide +kernel
theorem dX4_clogsOf_1 : decode cX4_clogsOf 1 = .ok (.iconst 1, 1) := by decide +kernel
theorem dX4_clogsOf_2 : decode cX4_clogsOf 2 = .ok (.iload_n 1, 1) := by decide +kernel
theorem dX4_clogsOf_3 : decode cX4_clogsOf 3 = .ok (.invokevirtual 51, 3) := by decide +kernel
theorem dX4_clogsOf_6 : decode cX4_clogsOf 6 = .ok (.ifCond .eq 7, 3) := by decide +kernel
theorem dX4_clogsOf_9 : decode cX4_clogsOf 9 = .ok (.iconst 1, 1) := by decide +kernel
theorem dX4_clogsOf_10 : decode cX4_clogsOf 10 = .ok (.goto 4, 3) := by decide +kernel
theorem dX4_clogsOf_13 : decode cX4_clogsOf 13 = .ok (.iconst 0, 1) := by decide +kernel
theorem dX4_clogsOf_14 : decode cX4_clogsOf 14 = .ok (.istore_n 2, 1) := by decide +kernel
theorem dX4_clogsOf_15 : decode cX4_clogsOf 15 = .ok (.aload_n 0, 1) := by decide +kernel
theorem dX4_clogsOf_16 : decode cX4_clogsOf 16 = .ok (.getfield 9, 3) := by decide +kernel
theorem dX4_clogsOf_19 : decode cX4_clogsOf 19 = .ok (.iload_n 1, 1) := by decide +kernel
theorem dX4_clogsOf_20 : decode cX4_clogsOf 20 = .ok (.iaload, 1) := by decide +kernel
theorem dX4_clogsOf_21 : decode cX4_clogsOf 21 = .ok (.tableswitch 80 1 4 #[31, 78, 49, 78], 31) := by decide +kernel
theorem dX4_clogsOf_52 : decode cX4_clogsOf 52 = .ok (.iload_n 2, 1) := by decide +kernel
theorem dX4_clogsOf_53 : decode cX4_clogsOf 53 = .ok (.ifCond .eq 15, 3) := by decide +kernel
theorem dX4_clogsOf_56 : decode cX4_clogsOf 56 = .ok (.aload_n 0, 1) := by decide +kernel
theorem dX4_clogsOf_57 : decode cX4_clogsOf 57 = .ok (.getfield 41, 3) := by decide +kernel
theorem dX4_clogsOf_60 : decode cX4_clogsOf 60 = .ok (.iconst 3, 1) := by decide +kernel
theorem dX4_clogsOf_61 : decode cX4_clogsOf 61 = .ok (.if_icmp .le 7, 3) := by decide +kernel
theorem dX4_clogsOf_64 : decode cX4_clogsOf 64 = .ok (.iconst 1, 1) := by decide +kernel
theorem dX4_clogsOf_65 : decode cX4_clogsOf 65 = .ok (.goto 4, 3) := by decide +kernel
theorem dX4_clogsOf_68 : decode cX4_clogsOf 68 = .ok (.iconst 0, 1) := by decide +kernel
theorem dX4_clogsOf_69 : decode cX4_clogsOf 69 = .ok (.ireturn, 1) := by decide +kernel
theorem dX4_clogsOf_70 : decode cX4_clogsOf 70 = .ok (.iload_n 2, 1) := by decide +kernel
theorem dX4_clogsOf_71 : decode cX4_clogsOf 71 = .ok (.ifCond .eq 11, 3) := by decide +kernel
theorem dX4_clogsOf_74 : decode cX4_clogsOf 74 = .ok (.aload_n 0, 1) := by decide +kernel
theorem dX4_clogsOf_75 : decode cX4_clogsOf 75 = .ok (.getfield 41, 3) := by decide +kernel
theorem dX4_clogsOf_78 : decode cX4_clogsOf 78 = .ok (.iconst 3, 1) := by decide +kernel
theorem dX4_clogsOf_79 : decode cX4_clogsOf 79 = .ok (.if_icmp .gt 14, 3) := by decide +kernel
theorem dX4_clogsOf_82 : decode cX4_clogsOf 82 = .ok (.aload_n 0, 1) := by decide +kernel
theorem dX4_clogsOf_83 : decode cX4_clogsOf 83 = .ok (.getfield 21, 3) := by decide +kernel
theorem dX4_clogsOf_86 : decode cX4_clogsOf 86 = .ok (.iload_n 1, 1) := by decide +kernel
theorem dX4_clogsOf_87 : decode cX4_clogsOf 87 = .ok (.iaload, 1) := by decide +kernel
theorem dX4_clogsOf_88 : decode cX4_clogsOf 88 = .ok (.bipush 50, 2) := by decide +kernel
theorem dX4_clogsOf_90 : decode cX4_clogsOf 90 = .ok (.if_icmp .le 7, 3) := by decide +kernel
theorem dX4_clogsOf_93 : decode cX4_clogsOf 93 = .ok (.iconst 1, 1) := by decide +kernel
theorem dX4_clogsOf_94 : decode cX4_clogsOf 94 = .ok (.goto 4, 3) := by decide +kernel
theorem dX4_clogsOf_97 : decode cX4_clogsOf 97 = .ok (.iconst 0, 1) := by decide +kernel
theorem dX4_clogsOf_98 : decode cX4_clogsOf 98 = .ok (.ireturn, 1) := by decide +kernel
theorem dX4_clogsOf_99 : decode cX4_clogsOf 99 = .ok (.iconst 0, 1) := by decide +kernel
theorem dX4_clogsOf_100 : decode cX4_clogsOf 100 = .ok (.ireturn, 1) := by decide +kernel
theorem dX4_clogsOf_101 : decode cX4_clogsOf 101 = .ok (.iload_n 2, 1) := by decide +kernel
theorem dX4_clogsOf_102 : decode cX4_clogsOf 102 = .ok (.ireturn, 1) := by decide +kernel
theorem dX4_ruesOf_0 : decode cX4_ruesOf 0 = .ok (.aload_n 0, 1) := by decide +kernel
theorem dX4_ruesOf_1 : decode cX4_ruesOf 1 = .ok (.iconst 2, 1) := by decide +kernel
theorem dX4_ruesOf_2 : decode cX4_ruesOf 2 = .ok (.iload_n 1, 1) := by decide +kernel
theorem dX4_ruesOf_3 : decode cX4_ruesOf 3 = .ok (.invokevirtual 51, 3) := by decide +kernel
theorem dX4_ruesOf_6 : decode cX4_ruesOf 6 = .ok (.iconst 0, 1) := by decide +kernel
theorem dX4_ruesOf_7 : decode cX4_ruesOf 7 = .ok (.bipush 99, 2) := by decide +kernel
theorem dX4_ruesOf_9 : decode cX4_ruesOf 9 = .ok (.invokestatic 55, 3) := by decide +kernel
theorem dX4_ruesOf_12 : decode cX4_ruesOf 12 = .ok (.istore_n 2, 1) := by decide +kernel
theorem dX4_ruesOf_13 : decode cX4_ruesOf 13 = .ok (.aload_n 0, 1) := by decide +kernel
theorem dX4_ruesOf_14 : decode cX4_ruesOf 14 = .ok (.getfield 9, 3) := by decide +kernel
theorem dX4_ruesOf_17 : decode cX4_ruesOf 17 = .ok (.iload_n 1, 1) := by decide +kernel
theorem dX4_ruesOf_18 : decode cX4_ruesOf 18 = .ok (.iaload, 1) := by decide +kernel
theorem dX4_ruesOf_19 : decode cX4_ruesOf 19 = .ok (.tableswitch 73 1 5 #[33, 40, 45, 59, 64], 33) := by decide +kernel
theorem dX4_ruesOf_52 : decode cX4_ruesOf 52 = .ok (.iconst 2, 1) := by decide +kernel
theorem dX4_ruesOf_53 : decode cX4_ruesOf 53 = .ok (.iload_n 2, 1) := by decide +kernel
theorem dX4_ruesOf_54 : decode cX4_ruesOf 54 = .ok (.imul, 1) := by decide +kernel
theorem dX4_ruesOf_55 : decode cX4_ruesOf 55 = .ok (.istore_n 3, 1) := by decide +kernel
theorem dX4_ruesOf_56 : decode cX4_ruesOf 56 = .ok (.goto 38, 3) := by decide +kernel
theorem dX4_ruesOf_59 : decode cX4_ruesOf 59 = .ok (.iconst 0, 1) := by decide +kernel
theorem dX4_ruesOf_60 : decode cX4_ruesOf 60 = .ok (.istore_n 3, 1) := by decide +kernel
theorem dX4_ruesOf_61 : decode cX4_ruesOf 61 = .ok (.goto 33, 3) := by decide +kernel
theorem dX4_ruesOf_64 : decode cX4_ruesOf 64 = .ok (.iconst 2, 1) := by decide +kernel
theorem dX4_ruesOf_65 : decode cX4_ruesOf 65 = .ok (.iload_n 2, 1) := by decide +kernel
theorem dX4_ruesOf_66 : decode cX4_ruesOf 66 = .ok (.imul, 1) := by decide +kernel
theorem dX4_ruesOf_67 : decode cX4_ruesOf 67 = .ok (.aload_n 0, 1) := by decide +kernel
theorem dX4_ruesOf_68 : decode cX4_ruesOf 68 = .ok (.getfield 15, 3) := by decide +kernel
theorem dX4_ruesOf_71 : decode cX4_ruesOf 71 = .ok (.iload_n 1, 1) := by decide +kernel
theorem dX4_ruesOf_72 : decode cX4_ruesOf 72 = .ok (.iaload, 1) := by decide +kernel
theorem dX4_ruesOf_73 : decode cX4_ruesOf 73 = .ok (.iadd, 1) := by decide +kernel
theorem dX4_ruesOf_74 : decode cX4_ruesOf 74 = .ok (.istore_n 3, 1) := by decide +kernel
theorem dX4_ruesOf_75 : decode cX4_ruesOf 75 = .ok (.goto 19, 3) := by decide +kernel
theorem dX4_ruesOf_78 : decode cX4_ruesOf 78 = .ok (.iconst 1, 1) := by decide +kernel
theorem dX4_ruesOf_79 : decode cX4_ruesOf 79 = .ok (.istore_n 3, 1) := by decide +kernel
theorem dX4_ruesOf_80 : decode cX4_ruesOf 80 = .ok (.goto 14, 3) := by decide +kernel
theorem dX4_ruesOf_83 : decode cX4_ruesOf 83 = .ok (.iload_n 2, 1) := by decide +kernel
theorem dX4_ruesOf_84 : decode cX4_ruesOf 84 = .ok (.iconst 5, 1) := by decide +kernel
theorem dX4_ruesOf_85 : decode cX4_ruesOf 85 = .ok (.invokestatic 59, 3) := by decide +kernel
theorem dX4_ruesOf_88 : decode cX4_ruesOf 88 = .ok (.istore_n 3, 1) := by decide +kernel
theorem dX4_ruesOf_89 : decode cX4_ruesOf 89 = .ok (.goto 5, 3) := by decide +kernel
theorem dX4_ruesOf_92 : decode cX4_ruesOf 92 = .ok (.iload_n 2, 1) := by decide +kernel
theorem dX4_ruesOf_93 : decode cX4_ruesOf 93 = .ok (.istore_n 3, 1) := by decide +kernel
theorem dX4_ruesOf_94 : decode cX4_ruesOf 94 = .ok (.iload_n 3, 1) := by decide +kernel
theorem dX4_ruesOf_95 : decode cX4_ruesOf 95 = .ok (.iconst 0, 1) := by decide +kernel
theorem dX4_ruesOf_96 : decode cX4_ruesOf 96 = .ok (.bipush 99, 2) := by decide +kernel
theorem dX4_ruesOf_98 : decode cX4_ruesOf 98 = .ok (.invokestatic 55, 3) := by decide +kernel
theorem dX4_ruesOf_101 : decode cX4_ruesOf 101 = .ok (.ireturn, 1) := by decide +kernel
theorem dX4_minutesOf_0 : decode cX4_minutesOf 0 = .ok (.aload_n 0, 1) := by decide +kernel
theorem dX4_minutesOf_1 : decode cX4_minutesOf 1 = .ok (.iload_n 1, 1) := by decide +kernel
theorem dX4_minutesOf_2 : decode cX4_minutesOf 2 = .ok (.invokevirtual 64, 3) := by decide +kernel
theorem dX4_minutesOf_5 : decode cX4_minutesOf 5 = .ok (.ifCond .eq 7, 3) := by decide +kernel
theorem dX4_minutesOf_8 : decode cX4_minutesOf 8 = .ok (.iconst 0, 1) := by decide +kernel
theorem dX4_minutesOf_9 : decode cX4_minutesOf 9 = .ok (.goto 8, 3) := by decide +kernel
theorem dX4_minutesOf_12 : decode cX4_minutesOf 12 = .ok (.aload_n 0, 1) := by decide +kernel
theorem dX4_minutesOf_13 : decode cX4_minutesOf 13 = .ok (.iload_n 1, 1) := by decide +kernel
theorem dX4_minutesOf_14 : decode cX4_minutesOf 14 = .ok (.invokevirtual 68, 3) := by decide +kernel
theorem dX4_minutesOf_17 : decode cX4_minutesOf 17 = .ok (.ireturn, 1) := by decide +kernel
theorem dX4_passDay_0 : decode cX4_passDay 0 = .ok (.iconst 0, 1) := by decide +kernel
theorem dX4_passDay_1 : decode cX4_passDay 1 = .ok (.istore_n 1, 1) := by decide +kernel
theorem dX4_passDay_2 : decode cX4_passDay 2 = .ok (.iload_n 1, 1) := by decide +kernel
theorem dX4_passDay_3 : decode cX4_passDay 3 = .ok (.aload_n 0, 1) := by decide +kernel
theorem dX4_passDay_4 : decode cX4_passDay 4 = .ok (.getfield 34, 3) := by decide +kernel
theorem dX4_passDay_7 : decode cX4_passDay 7 = .ok (.if_icmp .ge 20, 3) := by decide +kernel
theorem dX4_passDay_10 : decode cX4_passDay 10 = .ok (.aload_n 0, 1) := by decide +kernel
theorem dX4_passDay_11 : decode cX4_passDay 11 = .ok (.getfield 24, 3) := by decide +kernel
theorem dX4_passDay_14 : decode cX4_passDay 14 = .ok (.iload_n 1, 1) := by decide +kernel
theorem dX4_passDay_15 : decode cX4_passDay 15 = .ok (.aload_n 0, 1) := by decide +kernel
theorem dX4_passDay_16 : decode cX4_passDay 16 = .ok (.iload_n 1, 1) := by decide +kernel
theorem dX4_passDay_17 : decode cX4_passDay 17 = .ok (.invokevirtual 72, 3) := by decide +kernel
theorem dX4_passDay_20 : decode cX4_passDay 20 = .ok (.iastore, 1) := by decide +kernel
theorem dX4_passDay_21 : decode cX4_passDay 21 = .ok (.iinc 1 1, 3) := by decide +kernel
theorem dX4_passDay_24 : decode cX4_passDay 24 = .ok (.goto (-22), 3) := by decide +kernel
theorem dX4_passDay_27 : decode cX4_passDay 27 = .ok (.iconst 0, 1) := by decide +kernel
theorem dX4_passDay_28 : decode cX4_passDay 28 = .ok (.istore_n 1, 1) := by decide +kernel
theorem dX4_passDay_29 : decode cX4_passDay 29 = .ok (.iload_n 1, 1) := by decide +kernel
theorem dX4_passDay_30 : decode cX4_passDay 30 = .ok (.aload_n 0, 1) := by decide +kernel
theorem dX4_passDay_31 : decode cX4_passDay 31 = .ok (.getfield 34, 3) := by decide +kernel
theorem dX4_passDay_34 : decode cX4_passDay 34 = .ok (.if_icmp .ge 34, 3) := by decide +kernel
theorem dX4_passDay_37 : decode cX4_passDay 37 = .ok (.aload_n 0, 1) := by decide +kernel
theorem dX4_passDay_38 : decode cX4_passDay 38 = .ok (.getfield 18, 3) := by decide +kernel
theorem dX4_passDay_41 : decode cX4_passDay 41 = .ok (.iload_n 1, 1) := by decide +kernel
theorem dX4_passDay_42 : decode cX4_passDay 42 = .ok (.sipush 999, 3) := by decide +kernel
theorem dX4_passDay_45 : decode cX4_passDay 45 = .ok (.aload_n 0, 1) := by decide +kernel
theorem dX4_passDay_46 : decode cX4_passDay 46 = .ok (.getfield 18, 3) := by decide +kernel
theorem dX4_passDay_49 : decode cX4_passDay 49 = .ok (.iload_n 1, 1) := by decide +kernel
theorem dX4_passDay_50 : decode cX4_passDay 50 = .ok (.iaload, 1) := by decide +kernel
theorem dX4_passDay_51 : decode cX4_passDay 51 = .ok (.aload_n 0, 1) := by decide +kernel
theorem dX4_passDay_52 : decode cX4_passDay 52 = .ok (.getfield 24, 3) := by decide +kernel
theorem dX4_passDay_55 : decode cX4_passDay 55 = .ok (.iload_n 1, 1) := by decide +kernel
theorem dX4_passDay_56 : decode cX4_passDay 56 = .ok (.iaload, 1) := by decide +kernel
theorem dX4_passDay_57 : decode cX4_passDay 57 = .ok (.iadd, 1) := by decide +kernel
theorem dX4_passDay_58 : decode cX4_passDay 58 = .ok (.invokestatic 59, 3) := by decide +kernel
theorem dX4_passDay_61 : decode cX4_passDay 61 = .ok (.iastore, 1) := by decide +kernel
theorem dX4_passDay_62 : decode cX4_passDay 62 = .ok (.iinc 1 1, 3) := by decide +kernel
theorem dX4_passDay_65 : decode cX4_passDay 65 = .ok (.goto (-36), 3) := by decide +kernel
theorem dX4_passDay_68 : decode cX4_passDay 68 = .ok (.aload_n 0, 1) := by decide +kernel
theorem dX4_passDay_69 : decode cX4_passDay 69 = .ok (.dup, 1) := by decide +kernel
theorem dX4_passDay_70 : decode cX4_passDay 70 = .ok (.getfield 38, 3) := by decide +kernel
theorem dX4_passDay_73 : decode cX4_passDay 73 = .ok (.iconst 1, 1) := by decide +kernel
theorem dX4_passDay_74 : decode cX4_passDay 74 = .ok (.iadd, 1) := by decide +kernel
theorem dX4_passDay_75 : decode cX4_passDay 75 = .ok (.putfield 38, 3) := by decide +kernel
theorem dX4_passDay_78 : decode cX4_passDay 78 = .ok (.return_, 1) := by decide +kernel
theorem dX4_passDays_0 : decode cX4_passDays 0 = .ok (.iconst 0, 1) := by decide +kernel
theorem dX4_passDays_1 : decode cX4_passDays 1 = .ok (.istore_n 2, 1) := by decide +kernel
theorem dX4_passDays_2 : decode cX4_passDays 2 = .ok (.iload_n 2, 1) := by decide +kernel
theorem dX4_passDays_3 : decode cX4_passDays 3 = .ok (.iload_n 1, 1) := by decide +kernel
theorem dX4_passDays_4 : decode cX4_passDays 4 = .ok (.if_icmp .ge 13, 3) := by decide +kernel
theorem dX4_passDays_7 : decode cX4_passDays 7 = .ok (.aload_n 0, 1) := by decide +kernel
theorem dX4_passDays_8 : decode cX4_passDays 8 = .ok (.invokevirtual 75, 3) := by decide +kernel
theorem dX4_passDays_11 : decode cX4_passDays 11 = .ok (.iinc 2 1, 3) := by decide +kernel
theorem dX4_passDays_14 : decode cX4_passDays 14 = .ok (.goto (-12), 3) := by decide +kernel
theorem dX4_passDays_17 : decode cX4_passDays 17 = .ok (.return_, 1) := by decide +kernel
theorem dX4_drawOff_0 : decode cX4_drawOff 0 = .ok (.aload_n 0, 1) := by decide +kernel
theorem dX4_drawOff_1 : decode cX4_drawOff 1 = .ok (.getfield 18, 3) := by decide +kernel
theorem dX4_drawOff_4 : decode cX4_drawOff 4 = .ok (.iload_n 1, 1) := by decide +kernel
theorem dX4_drawOff_5 : decode cX4_drawOff 5 = .ok (.dup2, 1) := by decide +kernel
theorem dX4_drawOff_6 : decode cX4_drawOff 6 = .ok (.iaload, 1) := by decide +kernel
theorem dX4_drawOff_7 : decode cX4_drawOff 7 = .ok (.iload_n 3, 1) := by decide +kernel
theorem dX4_drawOff_8 : decode cX4_drawOff 8 = .ok (.isub, 1) := by decide +kernel
theorem dX4_drawOff_9 : decode cX4_drawOff 9 = .ok (.iastore, 1) := by decide +kernel
theorem dX4_drawOff_10 : decode cX4_drawOff 10 = .ok (.aload_n 0, 1) := by decide +kernel
theorem dX4_drawOff_11 : decode cX4_drawOff 11 = .ok (.getfield 18, 3) := by decide +kernel
theorem dX4_drawOff_14 : decode cX4_drawOff 14 = .ok (.iload_n 2, 1) := by decide +kernel
theorem dX4_drawOff_15 : decode cX4_drawOff 15 = .ok (.sipush 999, 3) := by decide +kernel
theorem dX4_drawOff_18 : decode cX4_drawOff 18 = .ok (.aload_n 0, 1) := by decide +kernel
theorem dX4_drawOff_19 : decode cX4_drawOff 19 = .ok (.getfield 18, 3) := by decide +kernel
theorem dX4_drawOff_22 : decode cX4_drawOff 22 = .ok (.iload_n 2, 1) := by decide +kernel
theorem dX4_drawOff_23 : decode cX4_drawOff 23 = .ok (.iaload, 1) := by decide +kernel
theorem dX4_drawOff_24 : decode cX4_drawOff 24 = .ok (.iload_n 3, 1) := by decide +kernel
theorem dX4_drawOff_25 : decode cX4_drawOff 25 = .ok (.iadd, 1) := by decide +kernel
theorem dX4_drawOff_26 : decode cX4_drawOff 26 = .ok (.invokestatic 59, 3) := by decide +kernel
theorem dX4_drawOff_29 : decode cX4_drawOff 29 = .ok (.iastore, 1) := by decide +kernel
theorem dX4_drawOff_30 : decode cX4_drawOff 30 = .ok (.aload_n 0, 1) := by decide +kernel
theorem dX4_drawOff_31 : decode cX4_drawOff 31 = .ok (.getfield 21, 3) := by decide +kernel
theorem dX4_drawOff_34 : decode cX4_drawOff 34 = .ok (.iload_n 2, 1) := by decide +kernel
theorem dX4_drawOff_35 : decode cX4_drawOff 35 = .ok (.sipush 999, 3) := by decide +kernel
theorem dX4_drawOff_38 : decode cX4_drawOff 38 = .ok (.aload_n 0, 1) := by decide +kernel
theorem dX4_drawOff_39 : decode cX4_drawOff 39 = .ok (.getfield 21, 3) := by decide +kernel
theorem dX4_drawOff_42 : decode cX4_drawOff 42 = .ok (.iload_n 2, 1) := by decide +kernel
theorem dX4_drawOff_43 : decode cX4_drawOff 43 = .ok (.iaload, 1) := by decide +kernel
theorem dX4_drawOff_44 : decode cX4_drawOff 44 = .ok (.iload_n 3, 1) := by decide +kernel
theorem dX4_drawOff_45 : decode cX4_drawOff 45 = .ok (.iadd, 1) := by decide +kernel
theorem dX4_drawOff_46 : decode cX4_drawOff 46 = .ok (.invokestatic 59, 3) := by decide +kernel
theorem dX4_drawOff_49 : decode cX4_drawOff 49 = .ok (.iastore, 1) := by decide +kernel
theorem dX4_drawOff_50 : decode cX4_drawOff 50 = .ok (.return_, 1) := by decide +kernel
theorem dX4_rueOfAll_0 : decode cX4_rueOfAll 0 = .ok (.iconst 0, 1) := by decide +kernel
theorem dX4_rueOfAll_1 : decode cX4_rueOfAll 1 = .ok (.istore_n 1, 1) := by decide +kernel
theorem dX4_rueOfAll_2 : decode cX4_rueOfAll 2 = .ok (.iconst 0, 1) := by decide +kernel
theorem dX4_rueOfAll_3 : decode cX4_rueOfAll 3 = .ok (.istore_n 2, 1) := by decide +kernel
theorem dX4_rueOfAll_4 : decode cX4_rueOfAll 4 = .ok (.iload_n 2, 1) := by decide +kernel
theorem dX4_rueOfAll_5 : decode cX4_rueOfAll 5 = .ok (.aload_n 0, 1) := by decide +kernel
theorem dX4_rueOfAll_6 : decode cX4_rueOfAll 6 = .ok (.getfield 34, 3) := by decide +kernel
theorem dX4_rueOfAll_9 : decode cX4_rueOfAll 9 = .ok (.if_icmp .ge 18, 3) := by decide +kernel
theorem dX4_rueOfAll_12 : decode cX4_rueOfAll 12 = .ok (.iload_n 1, 1) := by decide +kernel
theorem dX4_rueOfAll_13 : decode cX4_rueOfAll 13 = .ok (.aload_n 0, 1) := by decide +kernel
theorem dX4_rueOfAll_14 : decode cX4_rueOfAll 14 = .ok (.getfield 18, 3) := by decide +kernel
theorem dX4_rueOfAll_17 : decode cX4_rueOfAll 17 = .ok (.iload_n 2, 1) := by decide +kernel
theorem dX4_rueOfAll_18 : decode cX4_rueOfAll 18 = .ok (.iaload, 1) := by decide +kernel
theorem dX4_rueOfAll_19 : decode cX4_rueOfAll 19 = .ok (.iadd, 1) := by decide +kernel
theorem dX4_rueOfAll_20 : decode cX4_rueOfAll 20 = .ok (.istore_n 1, 1) := by decide +kernel
theorem dX4_rueOfAll_21 : decode cX4_rueOfAll 21 = .ok (.iinc 2 1, 3) := by decide +kernel
theorem dX4_rueOfAll_24 : decode cX4_rueOfAll 24 = .ok (.goto (-20), 3) := by decide +kernel
theorem dX4_rueOfAll_27 : decode cX4_rueOfAll 27 = .ok (.iload_n 1, 1) := by decide +kernel
theorem dX4_rueOfAll_28 : decode cX4_rueOfAll 28 = .ok (.ireturn, 1) := by decide +kernel
theorem dX4_mostRue_0 : decode cX4_mostRue 0 = .ok (.iconst 0, 1) := by decide +kernel
theorem dX4_mostRue_1 : decode cX4_mostRue 1 = .ok (.istore_n 1, 1) := by decide +kernel
theorem dX4_mostRue_2 : decode cX4_mostRue 2 = .ok (.iconst 0, 1) := by decide +kernel
theorem dX4_mostRue_3 : decode cX4_mostRue 3 = .ok (.istore_n 2, 1) := by decide +kernel
theorem dX4_mostRue_4 : decode cX4_mostRue 4 = .ok (.iload_n 2, 1) := by decide +kernel
theorem dX4_mostRue_5 : decode cX4_mostRue 5 = .ok (.aload_n 0, 1) := by decide +kernel
theorem dX4_mostRue_6 : decode cX4_mostRue 6 = .ok (.getfield 34, 3) := by decide +kernel
theorem dX4_mostRue_9 : decode cX4_mostRue 9 = .ok (.if_icmp .ge 20, 3) := by decide +kernel
theorem dX4_mostRue_12 : decode cX4_mostRue 12 = .ok (.iload_n 1, 1) := by decide +kernel
theorem dX4_mostRue_13 : decode cX4_mostRue 13 = .ok (.aload_n 0, 1) := by decide +kernel
theorem dX4_mostRue_14 : decode cX4_mostRue 14 = .ok (.getfield 18, 3) := by decide +kernel
theorem dX4_mostRue_17 : decode cX4_mostRue 17 = .ok (.iload_n 2, 1) := by decide +kernel
theorem dX4_mostRue_18 : decode cX4_mostRue 18 = .ok (.iaload, 1) := by decide +kernel
theorem dX4_mostRue_19 : decode cX4_mostRue 19 = .ok (.invokestatic 78, 3) := by decide +kernel
theorem dX4_mostRue_22 : decode cX4_mostRue 22 = .ok (.istore_n 1, 1) := by decide +kernel
theorem dX4_mostRue_23 : decode cX4_mostRue 23 = .ok (.iinc 2 1, 3) := by decide +kernel
theorem dX4_mostRue_26 : decode cX4_mostRue 26 = .ok (.goto (-22), 3) := by decide +kernel
theorem dX4_mostRue_29 : decode cX4_mostRue 29 = .ok (.iload_n 1, 1) := by decide +kernel
theorem dX4_mostRue_30 : decode cX4_mostRue 30 = .ok (.ireturn, 1) := by decide +kernel
theorem dX4_longest_0 : decode cX4_longest 0 = .ok (.iconst (-1), 1) := by decide +kernel
theorem dX4_longest_1 : decode cX4_longest 1 = .ok (.istore_n 1, 1) := by decide +kernel
theorem dX4_longest_2 : decode cX4_longest 2 = .ok (.iconst (-1), 1) := by decide +kernel
theorem dX4_longest_3 : decode cX4_longest 3 = .ok (.istore_n 2, 1) := by decide +kernel
theorem dX4_longest_4 : decode cX4_longest 4 = .ok (.iconst 0, 1) := by decide +kernel
theorem dX4_longest_5 : decode cX4_longest 5 = .ok (.istore_n 3, 1) := by decide +kernel
theorem dX4_longest_6 : decode cX4_longest 6 = .ok (.iload_n 3, 1) := by decide +kernel
theorem dX4_longest_7 : decode cX4_longest 7 = .ok (.aload_n 0, 1) := by decide +kernel
theorem dX4_longest_8 : decode cX4_longest 8 = .ok (.getfield 34, 3) := by decide +kernel
theorem dX4_longest_11 : decode cX4_longest 11 = .ok (.if_icmp .ge 27, 3) := by decide +kernel
theorem dX4_longest_14 : decode cX4_longest 14 = .ok (.aload_n 0, 1) := by decide +kernel
theorem dX4_longest_15 : decode cX4_longest 15 = .ok (.iload_n 3, 1) := by decide +kernel
theorem dX4_longest_16 : decode cX4_longest 16 = .ok (.invokevirtual 81, 3) := by decide +kernel
theorem dX4_longest_19 : decode cX4_longest 19 = .ok (.istore 4, 2) := by decide +kernel
theorem dX4_longest_21 : decode cX4_longest 21 = .ok (.iload 4, 2) := by decide +kernel
theorem dX4_longest_23 : decode cX4_longest 23 = .ok (.iload_n 2, 1) := by decide +kernel
theorem dX4_longest_24 : decode cX4_longest 24 = .ok (.if_icmp .le 8, 3) := by decide +kernel
theorem dX4_longest_27 : decode cX4_longest 27 = .ok (.iload_n 3, 1) := by decide +kernel
theorem dX4_longest_28 : decode cX4_longest 28 = .ok (.istore_n 1, 1) := by decide +kernel
theorem dX4_longest_29 : decode cX4_longest 29 = .ok (.iload 4, 2) := by decide +kernel
theorem dX4_longest_31 : decode cX4_longest 31 = .ok (.istore_n 2, 1) := by decide +kernel
theorem dX4_longest_32 : decode cX4_longest 32 = .ok (.iinc 3 1, 3) := by decide +kernel
theorem dX4_longest_35 : decode cX4_longest 35 = .ok (.goto (-29), 3) := by decide +kernel
theorem dX4_longest_38 : decode cX4_longest 38 = .ok (.iload_n 1, 1) := by decide +kernel
theorem dX4_longest_39 : decode cX4_longest 39 = .ok (.ireturn, 1) := by decide +kernel
theorem dX4_whoClog_0 : decode cX4_whoClog 0 = .ok (.iconst 0, 1) := by decide +kernel
theorem dX4_whoClog_1 : decode cX4_whoClog 1 = .ok (.istore_n 1, 1) := by decide +kernel
theorem dX4_whoClog_2 : decode cX4_whoClog 2 = .ok (.iconst 0, 1) := by decide +kernel
theorem dX4_whoClog_3 : decode cX4_whoClog 3 = .ok (.istore_n 2, 1) := by decide +kernel
theorem dX4_whoClog_4 : decode cX4_whoClog 4 = .ok (.iload_n 2, 1) := by decide +kernel
theorem dX4_whoClog_5 : decode cX4_whoClog 5 = .ok (.aload_n 0, 1) := by decide +kernel
theorem dX4_whoClog_6 : decode cX4_whoClog 6 = .ok (.getfield 34, 3) := by decide +kernel
theorem dX4_whoClog_9 : decode cX4_whoClog 9 = .ok (.if_icmp .ge 23, 3) := by decide +kernel
theorem dX4_whoClog_12 : decode cX4_whoClog 12 = .ok (.aload_n 0, 1) := by decide +kernel
theorem dX4_whoClog_13 : decode cX4_whoClog 13 = .ok (.iload_n 2, 1) := by decide +kernel
theorem dX4_whoClog_14 : decode cX4_whoClog 14 = .ok (.invokevirtual 64, 3) := by decide +kernel
theorem dX4_whoClog_17 : decode cX4_whoClog 17 = .ok (.ifCond .eq 9, 3) := by decide +kernel
theorem dX4_whoClog_20 : decode cX4_whoClog 20 = .ok (.iload_n 1, 1) := by decide +kernel
theorem dX4_whoClog_21 : decode cX4_whoClog 21 = .ok (.iconst 1, 1) := by decide +kernel
theorem dX4_whoClog_22 : decode cX4_whoClog 22 = .ok (.iload_n 2, 1) := by decide +kernel
theorem dX4_whoClog_23 : decode cX4_whoClog 23 = .ok (.ishl, 1) := by decide +kernel
theorem dX4_whoClog_24 : decode cX4_whoClog 24 = .ok (.ior, 1) := by decide +kernel
theorem dX4_whoClog_25 : decode cX4_whoClog 25 = .ok (.istore_n 1, 1) := by decide +kernel
theorem dX4_whoClog_26 : decode cX4_whoClog 26 = .ok (.iinc 2 1, 3) := by decide +kernel
theorem dX4_whoClog_29 : decode cX4_whoClog 29 = .ok (.goto (-25), 3) := by decide +kernel
theorem dX4_whoClog_32 : decode cX4_whoClog 32 = .ok (.iload_n 1, 1) := by decide +kernel
theorem dX4_whoClog_33 : decode cX4_whoClog 33 = .ok (.ireturn, 1) := by decide +kernel
theorem dX4_ruleTells_0 : decode cX4_ruleTells 0 = .ok (.aload_n 0, 1) := by decide +kernel
theorem dX4_ruleTells_1 : decode cX4_ruleTells 1 = .ok (.getfield 44, 3) := by decide +kernel
theorem dX4_ruleTells_4 : decode cX4_ruleTells 4 = .ok (.ifCond .lt 27, 3) := by decide +kernel
theorem dX4_ruleTells_7 : decode cX4_ruleTells 7 = .ok (.aload_n 0, 1) := by decide +kernel
theorem dX4_ruleTells_8 : decode cX4_ruleTells 8 = .ok (.getfield 44, 3) := by decide +kernel
theorem dX4_ruleTells_11 : decode cX4_ruleTells 11 = .ok (.aload_n 0, 1) := by decide +kernel
theorem dX4_ruleTells_12 : decode cX4_ruleTells 12 = .ok (.getfield 30, 3) := by decide +kernel
theorem dX4_ruleTells_15 : decode cX4_ruleTells 15 = .ok (.arraylength, 1) := by decide +kernel
theorem dX4_ruleTells_16 : decode cX4_ruleTells 16 = .ok (.if_icmp .ge 15, 3) := by decide +kernel
theorem dX4_ruleTells_19 : decode cX4_ruleTells 19 = .ok (.aload_n 0, 1) := by decide +kernel
theorem dX4_ruleTells_20 : decode cX4_ruleTells 20 = .ok (.getfield 30, 3) := by decide +kernel
theorem dX4_ruleTells_23 : decode cX4_ruleTells 23 = .ok (.aload_n 0, 1) := by decide +kernel
theorem dX4_ruleTells_24 : decode cX4_ruleTells 24 = .ok (.getfield 44, 3) := by decide +kernel
theorem dX4_ruleTells_27 : decode cX4_ruleTells 27 = .ok (.aaload, 1) := by decide +kernel
theorem dX4_ruleTells_28 : decode cX4_ruleTells 28 = .ok (.ifnonnull 5, 3) := by decide +kernel
theorem dX4_ruleTells_31 : decode cX4_ruleTells 31 = .ok (.iconst 0, 1) := by decide +kernel
theorem dX4_ruleTells_32 : decode cX4_ruleTells 32 = .ok (.ireturn, 1) := by decide +kernel
theorem dX4_ruleTells_33 : decode cX4_ruleTells 33 = .ok (.aload_n 0, 1) := by decide +kernel
theorem dX4_ruleTells_34 : decode cX4_ruleTells 34 = .ok (.getfield 27, 3) := by decide +kernel
theorem dX4_ruleTells_37 : decode cX4_ruleTells 37 = .ok (.iconst 0, 1) := by decide +kernel
theorem dX4_ruleTells_38 : decode cX4_ruleTells 38 = .ok (.aload_n 0, 1) := by decide +kernel
theorem dX4_ruleTells_39 : decode cX4_ruleTells 39 = .ok (.getfield 18, 3) := by decide +kernel
theorem dX4_ruleTells_42 : decode cX4_ruleTells 42 = .ok (.iload_n 2, 1) := by decide +kernel
theorem dX4_ruleTells_43 : decode cX4_ruleTells 43 = .ok (.iaload, 1) := by decide +kernel
theorem dX4_ruleTells_44 : decode cX4_ruleTells 44 = .ok (.iastore, 1) := by decide +kernel
theorem dX4_ruleTells_45 : decode cX4_ruleTells 45 = .ok (.aload_n 0, 1) := by decide +kernel
theorem dX4_ruleTells_46 : decode cX4_ruleTells 46 = .ok (.getfield 27, 3) := by decide +kernel
theorem dX4_ruleTells_49 : decode cX4_ruleTells 49 = .ok (.iconst 1, 1) := by decide +kernel
theorem dX4_ruleTells_50 : decode cX4_ruleTells 50 = .ok (.aload_n 0, 1) := by decide +kernel
theorem dX4_ruleTells_51 : decode cX4_ruleTells 51 = .ok (.getfield 15, 3) := by decide +kernel
theorem dX4_ruleTells_54 : decode cX4_ruleTells 54 = .ok (.iload_n 2, 1) := by decide +kernel
theorem dX4_ruleTells_55 : decode cX4_ruleTells 55 = .ok (.iaload, 1) := by decide +kernel
theorem dX4_ruleTells_56 : decode cX4_ruleTells 56 = .ok (.iastore, 1) := by decide +kernel
theorem dX4_ruleTells_57 : decode cX4_ruleTells 57 = .ok (.aload_n 0, 1) := by decide +kernel
theorem dX4_ruleTells_58 : decode cX4_ruleTells 58 = .ok (.getfield 27, 3) := by decide +kernel
theorem dX4_ruleTells_61 : decode cX4_ruleTells 61 = .ok (.iconst 2, 1) := by decide +kernel
theorem dX4_ruleTells_62 : decode cX4_ruleTells 62 = .ok (.aload_n 0, 1) := by decide +kernel
theorem dX4_ruleTells_63 : decode cX4_ruleTells 63 = .ok (.getfield 41, 3) := by decide +kernel
theorem dX4_ruleTells_66 : decode cX4_ruleTells 66 = .ok (.iastore, 1) := by decide +kernel
theorem dX4_ruleTells_67 : decode cX4_ruleTells 67 = .ok (.aload_n 0, 1) := by decide +kernel
theorem dX4_ruleTells_68 : decode cX4_ruleTells 68 = .ok (.getfield 27, 3) := by decide +kernel
theorem dX4_ruleTells_71 : decode cX4_ruleTells 71 = .ok (.iconst 3, 1) := by decide +kernel
theorem dX4_ruleTells_72 : decode cX4_ruleTells 72 = .ok (.aload_n 0, 1) := by decide +kernel
theorem dX4_ruleTells_73 : decode cX4_ruleTells 73 = .ok (.getfield 38, 3) := by decide +kernel
theorem dX4_ruleTells_76 : decode cX4_ruleTells 76 = .ok (.iastore, 1) := by decide +kernel
theorem dX4_ruleTells_77 : decode cX4_ruleTells 77 = .ok (.aload_n 0, 1) := by decide +kernel
theorem dX4_ruleTells_78 : decode cX4_ruleTells 78 = .ok (.getfield 27, 3) := by decide +kernel
theorem dX4_ruleTells_81 : decode cX4_ruleTells 81 = .ok (.iconst 4, 1) := by decide +kernel
theorem dX4_ruleTells_82 : decode cX4_ruleTells 82 = .ok (.aload_n 0, 1) := by decide +kernel
theorem dX4_ruleTells_83 : decode cX4_ruleTells 83 = .ok (.getfield 21, 3) := by decide +kernel
theorem dX4_ruleTells_86 : decode cX4_ruleTells 86 = .ok (.iload_n 2, 1) := by decide +kernel
theorem dX4_ruleTells_87 : decode cX4_ruleTells 87 = .ok (.iaload, 1) := by decide +kernel
theorem dX4_ruleTells_88 : decode cX4_ruleTells 88 = .ok (.iastore, 1) := by decide +kernel
theorem dX4_ruleTells_89 : decode cX4_ruleTells 89 = .ok (.aload_n 0, 1) := by decide +kernel
theorem dX4_ruleTells_90 : decode cX4_ruleTells 90 = .ok (.getfield 27, 3) := by decide +kernel
theorem dX4_ruleTells_93 : decode cX4_ruleTells 93 = .ok (.iconst 5, 1) := by decide +kernel
theorem dX4_ruleTells_94 : decode cX4_ruleTells 94 = .ok (.aload_n 0, 1) := by decide +kernel
theorem dX4_ruleTells_95 : decode cX4_ruleTells 95 = .ok (.invokevirtual 84, 3) := by decide +kernel
theorem dX4_ruleTells_98 : decode cX4_ruleTells 98 = .ok (.iastore, 1) := by decide +kernel
theorem dX4_ruleTells_99 : decode cX4_ruleTells 99 = .ok (.aload_n 0, 1) := by decide +kernel
theorem dX4_ruleTells_100 : decode cX4_ruleTells 100 = .ok (.getfield 30, 3) := by decide +kernel
theorem dX4_ruleTells_103 : decode cX4_ruleTells 103 = .ok (.aload_n 0, 1) := by decide +kernel
theorem dX4_ruleTells_104 : decode cX4_ruleTells 104 = .ok (.getfield 44, 3) := by decide +kernel
theorem dX4_ruleTells_107 : decode cX4_ruleTells 107 = .ok (.aaload, 1) := by decide +kernel
theorem dX4_ruleTells_108 : decode cX4_ruleTells 108 = .ok (.iload_n 1, 1) := by decide +kernel
theorem dX4_ruleTells_109 : decode cX4_ruleTells 109 = .ok (.aload_n 0, 1) := by decide +kernel
theorem dX4_ruleTells_110 : decode cX4_ruleTells 110 = .ok (.getfield 27, 3) := by decide +kernel
theorem dX4_ruleTells_113 : decode cX4_ruleTells 113 = .ok (.invokevirtual 88, 3) := by decide +kernel
theorem dX4_ruleTells_116 : decode cX4_ruleTells 116 = .ok (.ireturn, 1) := by decide +kernel
theorem dX5_init_0 : decode cX5_init 0 = .ok (.aload_n 0, 1) := by decide +kernel
theorem dX5_init_1 : decode cX5_init 1 = .ok (.invokespecial 1, 3) := by decide +kernel
theorem dX5_init_4 : decode cX5_init 4 = .ok (.aload_n 0, 1) := by decide +kernel
theorem dX5_init_5 : decode cX5_init 5 = .ok (.bipush 6, 2) := by decide +kernel
theorem dX5_init_7 : decode cX5_init 7 = .ok (.anewarray 9, 3) := by decide +kernel
theorem dX5_init_10 : decode cX5_init 10 = .ok (.putfield 11, 3) := by decide +kernel
theorem dX5_init_13 : decode cX5_init 13 = .ok (.aload_n 0, 1) := by decide +kernel
theorem dX5_init_14 : decode cX5_init 14 = .ok (.new 15, 3) := by decide +kernel
theorem dX5_init_17 : decode cX5_init 17 = .ok (.dup, 1) := by decide +kernel
theorem dX5_init_18 : decode cX5_init 18 = .ok (.invokespecial 17, 3) := by decide +kernel
theorem dX5_init_21 : decode cX5_init 21 = .ok (.putfield 18, 3) := by decide +kernel
theorem dX5_init_24 : decode cX5_init 24 = .ok (.aload_n 0, 1) := by decide +kernel
theorem dX5_init_25 : decode cX5_init 25 = .ok (.new 22, 3) := by decide +kernel
theorem dX5_init_28 : decode cX5_init 28 = .ok (.dup, 1) := by decide +kernel
theorem dX5_init_29 : decode cX5_init 29 = .ok (.invokespecial 24, 3) := by decide +kernel
theorem dX5_init_32 : decode cX5_init 32 = .ok (.putfield 25, 3) := by decide +kernel
theorem dX5_init_35 : decode cX5_init 35 = .ok (.aload_n 0, 1) := by decide +kernel
theorem dX5_init_36 : decode cX5_init 36 = .ok (.new 29, 3) := by decide +kernel
theorem dX5_init_39 : decode cX5_init 39 = .ok (.dup, 1) := by decide +kernel
theorem dX5_init_40 : decode cX5_init 40 = .ok (.aload_n 0, 1) := by decide +kernel
theorem dX5_init_41 : decode cX5_init 41 = .ok (.getfield 11, 3) := by decide +kernel
theorem dX5_init_44 : decode cX5_init 44 = .ok (.invokespecial 31, 3) := by decide +kernel
theorem dX5_init_47 : decode cX5_init 47 = .ok (.putfield 34, 3) := by decide +kernel
theorem dX5_init_50 : decode cX5_init 50 = .ok (.aload_n 0, 1) := by decide +kernel
theorem dX5_init_51 : decode cX5_init 51 = .ok (.new 29, 3) := by decide +kernel
theorem dX5_init_54 : decode cX5_init 54 = .ok (.dup, 1) := by decide +kernel
theorem dX5_init_55 : decode cX5_init 55 = .ok (.aload_n 0, 1) := by decide +kernel
theorem dX5_init_56 : decode cX5_init 56 = .ok (.getfield 11, 3) := by decide +kernel
theorem dX5_init_59 : decode cX5_init 59 = .ok (.invokespecial 31, 3) := by decide +kernel
theorem dX5_init_62 : decode cX5_init 62 = .ok (.putfield 38, 3) := by decide +kernel
theorem dX5_init_65 : decode cX5_init 65 = .ok (.aload_n 0, 1) := by decide +kernel
theorem dX5_init_66 : decode cX5_init 66 = .ok (.new 29, 3) := by decide +kernel
theorem dX5_init_69 : decode cX5_init 69 = .ok (.dup, 1) := by decide +kernel
theorem dX5_init_70 : decode cX5_init 70 = .ok (.aload_n 0, 1) := by decide +kernel
theorem dX5_init_71 : decode cX5_init 71 = .ok (.getfield 11, 3) := by decide +kernel
theorem dX5_init_74 : decode cX5_init 74 = .ok (.invokespecial 31, 3) := by decide +kernel
theorem dX5_init_77 : decode cX5_init 77 = .ok (.putfield 41, 3) := by decide +kernel
theorem dX5_init_80 : decode cX5_init 80 = .ok (.aload_n 0, 1) := by decide +kernel
theorem dX5_init_81 : decode cX5_init 81 = .ok (.iconst 4, 1) := by decide +kernel
theorem dX5_init_82 : decode cX5_init 82 = .ok (.anewarray 44, 3) := by decide +kernel
theorem dX5_init_85 : decode cX5_init 85 = .ok (.putfield 46, 3) := by decide +kernel
theorem dX5_init_88 : decode cX5_init 88 = .ok (.iconst 0, 1) := by decide +kernel
theorem dX5_init_89 : decode cX5_init 89 = .ok (.istore_n 1, 1) := by decide +kernel
theorem dX5_init_90 : decode cX5_init 90 = .ok (.iload_n 1, 1) := by decide +kernel
theorem dX5_init_91 : decode cX5_init 91 = .ok (.bipush 6, 2) := by decide +kernel
theorem dX5_init_93 : decode cX5_init 93 = .ok (.if_icmp .ge 22, 3) := by decide +kernel
theorem dX5_init_96 : decode cX5_init 96 = .ok (.aload_n 0, 1) := by decide +kernel
theorem dX5_init_97 : decode cX5_init 97 = .ok (.getfield 11, 3) := by decide +kernel
theorem dX5_init_100 : decode cX5_init 100 = .ok (.iload_n 1, 1) := by decide +kernel
theorem dX5_init_101 : decode cX5_init 101 = .ok (.new 9, 3) := by decide +kernel
theorem dX5_init_104 : decode cX5_init 104 = .ok (.dup, 1) := by decide +kernel
theorem dX5_init_105 : decode cX5_init 105 = .ok (.invokespecial 50, 3) := by decide +kernel
theorem dX5_init_108 : decode cX5_init 108 = .ok (.aastore, 1) := by decide +kernel
theorem dX5_init_109 : decode cX5_init 109 = .ok (.iinc 1 1, 3) := by decide +kernel
theorem dX5_init_112 : decode cX5_init 112 = .ok (.goto (-22), 3) := by decide +kernel
theorem dX5_init_115 : decode cX5_init 115 = .ok (.iconst 0, 1) := by decide +kernel
theorem dX5_init_116 : decode cX5_init 116 = .ok (.istore_n 1, 1) := by decide +kernel
theorem dX5_init_117 : decode cX5_init 117 = .ok (.iload_n 1, 1) := by decide +kernel
theorem dX5_init_118 : decode cX5_init 118 = .ok (.iconst 4, 1) := by decide +kernel
theorem dX5_init_119 : decode cX5_init 119 = .ok (.if_icmp .ge 22, 3) := by decide +kernel
theorem dX5_init_122 : decode cX5_init 122 = .ok (.aload_n 0, 1) := by decide +kernel
theorem dX5_init_123 : decode cX5_init 123 = .ok (.getfield 46, 3) := by decide +kernel
theorem dX5_init_126 : decode cX5_init 126 = .ok (.iload_n 1, 1) := by decide +kernel
theorem dX5_init_127 : decode cX5_init 127 = .ok (.new 44, 3) := by decide +kernel
theorem dX5_init_130 : decode cX5_init 130 = .ok (.dup, 1) := by decide +kernel
theorem dX5_init_131 : decode cX5_init 131 = .ok (.invokespecial 51, 3) := by decide +kernel
theorem dX5_init_134 : decode cX5_init 134 = .ok (.aastore, 1) := by decide +kernel
theorem dX5_init_135 : decode cX5_init 135 = .ok (.iinc 1 1, 3) := by decide +kernel
theorem dX5_init_138 : decode cX5_init 138 = .ok (.goto (-21), 3) := by decide +kernel
theorem dX5_init_141 : decode cX5_init 141 = .ok (.iconst 0, 1) := by decide +kernel
theorem dX5_init_142 : decode cX5_init 142 = .ok (.istore_n 1, 1) := by decide +kernel
theorem dX5_init_143 : decode cX5_init 143 = .ok (.iload_n 1, 1) := by decide +kernel
theorem dX5_init_144 : decode cX5_init 144 = .ok (.ldc 52, 2) := by decide +kernel
theorem dX5_init_146 : decode cX5_init 146 = .ok (.invokevirtual 54, 3) := by decide +kernel
theorem dX5_init_149 : decode cX5_init 149 = .ok (.if_icmp .ge 23, 3) := by decide +kernel
theorem dX5_init_152 : decode cX5_init 152 = .ok (.aload_n 0, 1) := by decide +kernel
theorem dX5_init_153 : decode cX5_init 153 = .ok (.getfield 18, 3) := by decide +kernel
theorem dX5_init_156 : decode cX5_init 156 = .ok (.ldc 52, 2) := by decide +kernel
theorem dX5_init_158 : decode cX5_init 158 = .ok (.iload_n 1, 1) := by decide +kernel
theorem dX5_init_159 : decode cX5_init 159 = .ok (.invokevirtual 60, 3) := by decide +kernel
theorem dX5_init_162 : decode cX5_init 162 = .ok (.invokevirtual 64, 3) := by decide +kernel
theorem dX5_init_165 : decode cX5_init 165 = .ok (.pop, 1) := by decide +kernel
theorem dX5_init_166 : decode cX5_init 166 = .ok (.iinc 1 1, 3) := by decide +kernel
theorem dX5_init_169 : decode cX5_init 169 = .ok (.goto (-26), 3) := by decide +kernel
theorem dX5_init_172 : decode cX5_init 172 = .ok (.aload_n 0, 1) := by decide +kernel
theorem dX5_init_173 : decode cX5_init 173 = .ok (.invokevirtual 68, 3) := by decide +kernel
theorem dX5_init_176 : decode cX5_init 176 = .ok (.pop, 1) := by decide +kernel
theorem dX5_init_177 : decode cX5_init 177 = .ok (.return_, 1) := by decide +kernel
theorem dX5_set_0 : decode cX5_set 0 = .ok (.aload_n 0, 1) := by decide +kernel
theorem dX5_set_1 : decode cX5_set 1 = .ok (.iload_n 1, 1) := by decide +kernel
theorem dX5_set_2 : decode cX5_set 2 = .ok (.iload_n 2, 1) := by decide +kernel
theorem dX5_set_3 : decode cX5_set 3 = .ok (.invokevirtual 71, 3) := by decide +kernel
theorem dX5_set_6 : decode cX5_set 6 = .ok (.istore 4, 2) := by decide +kernel
theorem dX5_set_8 : decode cX5_set 8 = .ok (.iload 4, 2) := by decide +kernel
theorem dX5_set_10 : decode cX5_set 10 = .ok (.bipush (-2), 2) := by decide +kernel
theorem dX5_set_12 : decode cX5_set 12 = .ok (.if_icmp .eq 15, 3) := by decide +kernel
theorem dX5_set_15 : decode cX5_set 15 = .ok (.iload_n 3, 1) := by decide +kernel
theorem dX5_set_16 : decode cX5_set 16 = .ok (.iconst 0, 1) := by decide +kernel
theorem dX5_set_17 : decode cX5_set 17 = .ok (.iload_n 1, 1) := by decide +kernel
theorem dX5_set_18 : decode cX5_set 18 = .ok (.invokestatic 75, 3) := by decide +kernel
theorem dX5_set_21 : decode cX5_set 21 = .ok (.invokestatic 78, 3) := by decide +kernel
theorem dX5_set_24 : decode cX5_set 24 = .ok (.ifCond .ne 6, 3) := by decide +kernel
theorem dX5_set_27 : decode cX5_set 27 = .ok (.bipush (-2), 2) := by decide +kernel
theorem dX5_set_29 : decode cX5_set 29 = .ok (.ireturn, 1) := by decide +kernel
theorem dX5_set_30 : decode cX5_set 30 = .ok (.iload_n 1, 1) := by decide +kernel
theorem dX5_set_31 : decode cX5_set 31 = .ok (.tableswitch 77 0 3 #[29, 40, 51, 64], 29) := by decide +kernel
theorem dX5_set_60 : decode cX5_set 60 = .ok (.aload_n 0, 1) := by decide +kernel
theorem dX5_set_61 : decode cX5_set 61 = .ok (.getfield 34, 3) := by decide +kernel
theorem dX5_set_64 : decode cX5_set 64 = .ok (.iload_n 3, 1) := by decide +kernel
theorem dX5_set_65 : decode cX5_set 65 = .ok (.putfield 82, 3) := by decide +kernel
theorem dX5_set_68 : decode cX5_set 68 = .ok (.goto 50, 3) := by decide +kernel
theorem dX5_set_71 : decode cX5_set 71 = .ok (.aload_n 0, 1) := by decide +kernel
theorem dX5_set_72 : decode cX5_set 72 = .ok (.getfield 34, 3) := by decide +kernel
theorem dX5_set_75 : decode cX5_set 75 = .ok (.iload_n 3, 1) := by decide +kernel
theorem dX5_set_76 : decode cX5_set 76 = .ok (.putfield 86, 3) := by decide +kernel
theorem dX5_set_79 : decode cX5_set 79 = .ok (.goto 39, 3) := by decide +kernel
theorem dX5_set_82 : decode cX5_set 82 = .ok (.aload_n 0, 1) := by decide +kernel
theorem dX5_set_83 : decode cX5_set 83 = .ok (.getfield 34, 3) := by decide +kernel
theorem dX5_set_86 : decode cX5_set 86 = .ok (.getfield 89, 3) := by decide +kernel
theorem dX5_set_89 : decode cX5_set 89 = .ok (.iload_n 2, 1) := by decide +kernel
theorem dX5_set_90 : decode cX5_set 90 = .ok (.iload_n 3, 1) := by decide +kernel
theorem dX5_set_91 : decode cX5_set 91 = .ok (.iastore, 1) := by decide +kernel
theorem dX5_set_92 : decode cX5_set 92 = .ok (.goto 26, 3) := by decide +kernel
theorem dX5_set_95 : decode cX5_set 95 = .ok (.aload_n 0, 1) := by decide +kernel
theorem dX5_set_96 : decode cX5_set 96 = .ok (.getfield 34, 3) := by decide +kernel
theorem dX5_set_99 : decode cX5_set 99 = .ok (.getfield 93, 3) := by decide +kernel
theorem dX5_set_102 : decode cX5_set 102 = .ok (.iload_n 2, 1) := by decide +kernel
theorem dX5_set_103 : decode cX5_set 103 = .ok (.iload_n 3, 1) := by decide +kernel
theorem dX5_set_104 : decode cX5_set 104 = .ok (.iastore, 1) := by decide +kernel
theorem dX5_set_105 : decode cX5_set 105 = .ok (.goto 13, 3) := by decide +kernel
theorem dX5_set_108 : decode cX5_set 108 = .ok (.aload_n 0, 1) := by decide +kernel
theorem dX5_set_109 : decode cX5_set 109 = .ok (.getfield 34, 3) := by decide +kernel
theorem dX5_set_112 : decode cX5_set 112 = .ok (.getfield 96, 3) := by decide +kernel
theorem dX5_set_115 : decode cX5_set 115 = .ok (.iload_n 2, 1) := by decide +kernel
theorem dX5_set_116 : decode cX5_set 116 = .ok (.iload_n 3, 1) := by decide +kernel
theorem dX5_set_117 : decode cX5_set 117 = .ok (.iastore, 1) := by decide +kernel
theorem dX5_set_118 : decode cX5_set 118 = .ok (.iload 4, 2) := by decide +kernel
theorem dX5_set_120 : decode cX5_set 120 = .ok (.ireturn, 1) := by decide +kernel
theorem dX5_person_0 : decode cX5_person 0 = .ok (.iload_n 1, 1) := by decide +kernel
theorem dX5_person_1 : decode cX5_person 1 = .ok (.iload_n 2, 1) := by decide +kernel
theorem dX5_person_2 : decode cX5_person 2 = .ok (.iload_n 3, 1) := by decide +kernel
theorem dX5_person_3 : decode cX5_person 3 = .ok (.invokestatic 99, 3) := by decide +kernel
theorem dX5_person_6 : decode cX5_person 6 = .ok (.ifCond .ne 6, 3) := by decide +kernel
theorem dX5_person_9 : decode cX5_person 9 = .ok (.bipush (-2), 2) := by decide +kernel
theorem dX5_person_11 : decode cX5_person 11 = .ok (.ireturn, 1) := by decide +kernel
theorem dX5_person_12 : decode cX5_person 12 = .ok (.aload_n 0, 1) := by decide +kernel
theorem dX5_person_13 : decode cX5_person 13 = .ok (.getfield 34, 3) := by decide +kernel
theorem dX5_person_16 : decode cX5_person 16 = .ok (.iload_n 1, 1) := by decide +kernel
theorem dX5_person_17 : decode cX5_person 17 = .ok (.iload_n 2, 1) := by decide +kernel
theorem dX5_person_18 : decode cX5_person 18 = .ok (.iload_n 3, 1) := by decide +kernel
theorem dX5_person_19 : decode cX5_person 19 = .ok (.invokevirtual 102, 3) := by decide +kernel
theorem dX5_person_22 : decode cX5_person 22 = .ok (.ireturn, 1) := by decide +kernel
theorem dX5_told_0 : decode cX5_told 0 = .ok (.iload_n 2, 1) := by decide +kernel
theorem dX5_told_1 : decode cX5_told 1 = .ok (.iconst 4, 1) := by decide +kernel
theorem dX5_told_2 : decode cX5_told 2 = .ok (.if_icmp .gt 10, 3) := by decide +kernel
theorem dX5_told_5 : decode cX5_told 5 = .ok (.aload_n 0, 1) := by decide +kernel
theorem dX5_told_6 : decode cX5_told 6 = .ok (.iload_n 2, 1) := by decide +kernel
theorem dX5_told_7 : decode cX5_told 7 = .ok (.iload_n 1, 1) := by decide +kernel
theorem dX5_told_8 : decode cX5_told 8 = .ok (.invokevirtual 71, 3) := by decide +kernel
theorem dX5_told_11 : decode cX5_told 11 = .ok (.ireturn, 1) := by decide +kernel
theorem dX5_told_12 : decode cX5_told 12 = .ok (.aload_n 0, 1) := by decide +kernel
theorem dX5_told_13 : decode cX5_told 13 = .ok (.getfield 34, 3) := by decide +kernel
theorem dX5_told_16 : decode cX5_told 16 = .ok (.iload_n 1, 1) := by decide +kernel
theorem dX5_told_17 : decode cX5_told 17 = .ok (.invokevirtual 106, 3) := by decide +kernel
theorem dX5_told_20 : decode cX5_told 20 = .ok (.ifCond .ne 6, 3) := by decide +kernel
theorem dX5_told_23 : decode cX5_told 23 = .ok (.bipush (-2), 2) := by decide +kernel
theorem dX5_told_25 : decode cX5_told 25 = .ok (.ireturn, 1) := by decide +kernel
theorem dX5_told_26 : decode cX5_told 26 = .ok (.iload_n 2, 1) := by decide +kernel
theorem dX5_told_27 : decode cX5_told 27 = .ok (.tableswitch 87 5 9 #[33, 43, 52, 69, 78], 33) := by decide +kernel
theorem dX5_told_60 : decode cX5_told 60 = .ok (.aload_n 0, 1) := by decide +kernel
theorem dX5_told_61 : decode cX5_told 61 = .ok (.getfield 34, 3) := by decide +kernel
theorem dX5_told_64 : decode cX5_told 64 = .ok (.getfield 110, 3) := by decide +kernel
theorem dX5_told_67 : decode cX5_told 67 = .ok (.iload_n 1, 1) := by decide +kernel
theorem dX5_told_68 : decode cX5_told 68 = .ok (.iaload, 1) := by decide +kernel
theorem dX5_told_69 : decode cX5_told 69 = .ok (.ireturn, 1) := by decide +kernel
theorem dX5_told_70 : decode cX5_told 70 = .ok (.aload_n 0, 1) := by decide +kernel
theorem dX5_told_71 : decode cX5_told 71 = .ok (.getfield 34, 3) := by decide +kernel
theorem dX5_told_74 : decode cX5_told 74 = .ok (.iload_n 1, 1) := by decide +kernel
theorem dX5_told_75 : decode cX5_told 75 = .ok (.invokevirtual 113, 3) := by decide +kernel
theorem dX5_told_78 : decode cX5_told 78 = .ok (.ireturn, 1) := by decide +kernel
theorem dX5_told_79 : decode cX5_told 79 = .ok (.aload_n 0, 1) := by decide +kernel
theorem dX5_told_80 : decode cX5_told 80 = .ok (.getfield 34, 3) := by decide +kernel
theorem dX5_told_83 : decode cX5_told 83 = .ok (.iload_n 1, 1) := by decide +kernel
theorem dX5_told_84 : decode cX5_told 84 = .ok (.invokevirtual 116, 3) := by decide +kernel
theorem dX5_told_87 : decode cX5_told 87 = .ok (.ifCond .eq 7, 3) := by decide +kernel
theorem dX5_told_90 : decode cX5_told 90 = .ok (.iconst 1, 1) := by decide +kernel
theorem dX5_told_91 : decode cX5_told 91 = .ok (.goto 4, 3) := by decide +kernel
theorem dX5_told_94 : decode cX5_told 94 = .ok (.iconst 0, 1) := by decide +kernel
theorem dX5_told_95 : decode cX5_told 95 = .ok (.ireturn, 1) := by decide +kernel
theorem dX5_told_96 : decode cX5_told 96 = .ok (.aload_n 0, 1) := by decide +kernel
theorem dX5_told_97 : decode cX5_told 97 = .ok (.getfield 34, 3) := by decide +kernel
theorem dX5_told_100 : decode cX5_told 100 = .ok (.iload_n 1, 1) := by decide +kernel
theorem dX5_told_101 : decode cX5_told 101 = .ok (.invokevirtual 119, 3) := by decide +kernel
theorem dX5_told_104 : decode cX5_told 104 = .ok (.ireturn, 1) := by decide +kernel
theorem dX5_told_105 : decode cX5_told 105 = .ok (.aload_n 0, 1) := by decide +kernel
theorem dX5_told_106 : decode cX5_told 106 = .ok (.getfield 34, 3) := by decide +kernel
theorem dX5_told_109 : decode cX5_told 109 = .ok (.iload_n 1, 1) := by decide +kernel
theorem dX5_told_110 : decode cX5_told 110 = .ok (.invokevirtual 122, 3) := by decide +kernel
theorem dX5_told_113 : decode cX5_told 113 = .ok (.ireturn, 1) := by decide +kernel
theorem dX5_told_114 : decode cX5_told 114 = .ok (.bipush (-2), 2) := by decide +kernel
theorem dX5_told_116 : decode cX5_told 116 = .ok (.ireturn, 1) := by decide +kernel
theorem dX5_held_0 : decode cX5_held 0 = .ok (.iload_n 1, 1) := by decide +kernel
theorem dX5_held_1 : decode cX5_held 1 = .ok (.tableswitch 129 0 4 #[35, 43, 51, 77, 103], 35) := by decide +kernel
theorem dX5_held_36 : decode cX5_held 36 = .ok (.aload_n 0, 1) := by decide +kernel
theorem dX5_held_37 : decode cX5_held 37 = .ok (.getfield 34, 3) := by decide +kernel
theorem dX5_held_40 : decode cX5_held 40 = .ok (.getfield 82, 3) := by decide +kernel
theorem dX5_held_43 : decode cX5_held 43 = .ok (.ireturn, 1) := by decide +kernel
theorem dX5_held_44 : decode cX5_held 44 = .ok (.aload_n 0, 1) := by decide +kernel
theorem dX5_held_45 : decode cX5_held 45 = .ok (.getfield 34, 3) := by decide +kernel
theorem dX5_held_48 : decode cX5_held 48 = .ok (.getfield 86, 3) := by decide +kernel
theorem dX5_held_51 : decode cX5_held 51 = .ok (.ireturn, 1) := by decide +kernel
theorem dX5_held_52 : decode cX5_held 52 = .ok (.aload_n 0, 1) := by decide +kernel
theorem dX5_held_53 : decode cX5_held 53 = .ok (.getfield 34, 3) := by decide +kernel
theorem dX5_held_56 : decode cX5_held 56 = .ok (.iload_n 2, 1) := by decide +kernel
theorem dX5_held_57 : decode cX5_held 57 = .ok (.invokevirtual 106, 3) := by decide +kernel
theorem dX5_held_60 : decode cX5_held 60 = .ok (.ifCond .eq 15, 3) := by decide +kernel
theorem dX5_held_63 : decode cX5_held 63 = .ok (.aload_n 0, 1) := by decide +kernel
theorem dX5_held_64 : decode cX5_held 64 = .ok (.getfield 34, 3) := by decide +kernel
theorem dX5_held_67 : decode cX5_held 67 = .ok (.getfield 89, 3) := by decide +kernel
theorem dX5_held_70 : decode cX5_held 70 = .ok (.iload_n 2, 1) := by decide +kernel
theorem dX5_held_71 : decode cX5_held 71 = .ok (.iaload, 1) := by decide +kernel
theorem dX5_held_72 : decode cX5_held 72 = .ok (.goto 5, 3) := by decide +kernel
theorem dX5_held_75 : decode cX5_held 75 = .ok (.bipush (-2), 2) := by decide +kernel
theorem dX5_held_77 : decode cX5_held 77 = .ok (.ireturn, 1) := by decide +kernel
theorem dX5_held_78 : decode cX5_held 78 = .ok (.aload_n 0, 1) := by decide +kernel
theorem dX5_held_79 : decode cX5_held 79 = .ok (.getfield 34, 3) := by decide +kernel
theorem dX5_held_82 : decode cX5_held 82 = .ok (.iload_n 2, 1) := by decide +kernel
theorem dX5_held_83 : decode cX5_held 83 = .ok (.invokevirtual 106, 3) := by decide +kernel
theorem dX5_held_86 : decode cX5_held 86 = .ok (.ifCond .eq 15, 3) := by decide +kernel
theorem dX5_held_89 : decode cX5_held 89 = .ok (.aload_n 0, 1) := by decide +kernel
theorem dX5_held_90 : decode cX5_held 90 = .ok (.getfield 34, 3) := by decide +kernel
theorem dX5_held_93 : decode cX5_held 93 = .ok (.getfield 93, 3) := by decide +kernel
theorem dX5_held_96 : decode cX5_held 96 = .ok (.iload_n 2, 1) := by decide +kernel
theorem dX5_held_97 : decode cX5_held 97 = .ok (.iaload, 1) := by decide +kernel
theorem dX5_held_98 : decode cX5_held 98 = .ok (.goto 5, 3) := by decide +kernel
theorem dX5_held_101 : decode cX5_held 101 = .ok (.bipush (-2), 2) := by decide +kernel
theorem dX5_held_103 : decode cX5_held 103 = .ok (.ireturn, 1) := by decide +kernel
theorem dX5_held_104 : decode cX5_held 104 = .ok (.aload_n 0, 1) := by decide +kernel
theorem dX5_held_105 : decode cX5_held 105 = .ok (.getfield 34, 3) := by decide +kernel
theorem dX5_held_108 : decode cX5_held 108 = .ok (.iload_n 2, 1) := by decide +kernel
theorem dX5_held_109 : decode cX5_held 109 = .ok (.invokevirtual 106, 3) := by decide +kernel
theorem dX5_held_112 : decode cX5_held 112 = .ok (.ifCond .eq 15, 3) := by decide +kernel
theorem dX5_held_115 : decode cX5_held 115 = .ok (.aload_n 0, 1) := by decide +kernel
theorem dX5_held_116 : decode cX5_held 116 = .ok (.getfield 34, 3) := by decide +kernel
theorem dX5_held_119 : decode cX5_held 119 = .ok (.getfield 96, 3) := by decide +kernel
theorem dX5_held_122 : decode cX5_held 122 = .ok (.iload_n 2, 1) := by decide +kernel
theorem dX5_held_123 : decode cX5_held 123 = .ok (.iaload, 1) := by decide +kernel
theorem dX5_held_124 : decode cX5_held 124 = .ok (.goto 5, 3) := by decide +kernel
theorem dX5_held_127 : decode cX5_held 127 = .ok (.bipush (-2), 2) := by decide +kernel
theorem dX5_held_129 : decode cX5_held 129 = .ok (.ireturn, 1) := by decide +kernel
theorem dX5_held_130 : decode cX5_held 130 = .ok (.bipush (-2), 2) := by decide +kernel
theorem dX5_held_132 : decode cX5_held 132 = .ok (.ireturn, 1) := by decide +kernel
theorem dX5_heldMost_0 : decode cX5_heldMost 0 = .ok (.iload_n 0, 1) := by decide +kernel
theorem dX5_heldMost_1 : decode cX5_heldMost 1 = .ok (.tableswitch 47 0 4 #[35, 47, 47, 39, 43], 35) := by decide +kernel
theorem dX5_heldMost_36 : decode cX5_heldMost 36 = .ok (.sipush 999, 3) := by decide +kernel
theorem dX5_heldMost_39 : decode cX5_heldMost 39 = .ok (.ireturn, 1) := by decide +kernel
theorem dX5_heldMost_40 : decode cX5_heldMost 40 = .ok (.sipush 999, 3) := by decide +kernel
theorem dX5_heldMost_43 : decode cX5_heldMost 43 = .ok (.ireturn, 1) := by decide +kernel
theorem dX5_heldMost_44 : decode cX5_heldMost 44 = .ok (.sipush 999, 3) := by decide +kernel
theorem dX5_heldMost_47 : decode cX5_heldMost 47 = .ok (.ireturn, 1) := by decide +kernel
theorem dX5_heldMost_48 : decode cX5_heldMost 48 = .ok (.bipush 9, 2) := by decide +kernel
theorem dX5_heldMost_50 : decode cX5_heldMost 50 = .ok (.ireturn, 1) := by decide +kernel
theorem dX5_feed_0 : decode cX5_feed 0 = .ok (.iload_n 1, 1) := by decide +kernel
theorem dX5_feed_1 : decode cX5_feed 1 = .ok (.iconst 0, 1) := by decide +kernel
theorem dX5_feed_2 : decode cX5_feed 2 = .ok (.sipush 255, 3) := by decide +kernel
theorem dX5_feed_5 : decode cX5_feed 5 = .ok (.invokestatic 78, 3) := by decide +kernel
theorem dX5_feed_8 : decode cX5_feed 8 = .ok (.ifCond .ne 6, 3) := by decide +kernel
theorem dX5_feed_11 : decode cX5_feed 11 = .ok (.bipush (-2), 2) := by decide +kernel
theorem dX5_feed_13 : decode cX5_feed 13 = .ok (.ireturn, 1) := by decide +kernel
theorem dX5_feed_14 : decode cX5_feed 14 = .ok (.aload_n 0, 1) := by decide +kernel
theorem dX5_feed_15 : decode cX5_feed 15 = .ok (.getfield 18, 3) := by decide +kernel
theorem dX5_feed_18 : decode cX5_feed 18 = .ok (.iload_n 1, 1) := by decide +kernel
theorem dX5_feed_19 : decode cX5_feed 19 = .ok (.invokevirtual 64, 3) := by decide +kernel
theorem dX5_feed_22 : decode cX5_feed 22 = .ok (.ireturn, 1) := by decide +kernel
theorem dX5_text_0 : decode cX5_text 0 = .ok (.aload_n 0, 1) := by decide +kernel
theorem dX5_text_1 : decode cX5_text 1 = .ok (.getfield 125, 3) := by decide +kernel
theorem dX5_text_4 : decode cX5_text 4 = .ok (.bipush 6, 2) := by decide +kernel
theorem dX5_text_6 : decode cX5_text 6 = .ok (.if_icmp .lt 6, 3) := by decide +kernel
theorem dX5_text_9 : decode cX5_text 9 = .ok (.bipush (-4), 2) := by decide +kernel
theorem dX5_text_11 : decode cX5_text 11 = .ok (.ireturn, 1) := by decide +kernel
theorem dX5_text_12 : decode cX5_text 12 = .ok (.aload_n 0, 1) := by decide +kernel
theorem dX5_text_13 : decode cX5_text 13 = .ok (.getfield 18, 3) := by decide +kernel
theorem dX5_text_16 : decode cX5_text 16 = .ok (.invokevirtual 128, 3) := by decide +kernel
theorem dX5_text_19 : decode cX5_text 19 = .ok (.istore_n 1, 1) := by decide +kernel
theorem dX5_text_20 : decode cX5_text 20 = .ok (.aload_n 0, 1) := by decide +kernel
theorem dX5_text_21 : decode cX5_text 21 = .ok (.getfield 18, 3) := by decide +kernel
theorem dX5_text_24 : decode cX5_text 24 = .ok (.iconst 0, 1) := by decide +kernel
theorem dX5_text_25 : decode cX5_text 25 = .ok (.putfield 131, 3) := by decide +kernel
theorem dX5_text_28 : decode cX5_text 28 = .ok (.iload_n 1, 1) := by decide +kernel
theorem dX5_text_29 : decode cX5_text 29 = .ok (.iconst (-1), 1) := by decide +kernel
theorem dX5_text_30 : decode cX5_text 30 = .ok (.if_icmp .eq 8, 3) := by decide +kernel
theorem dX5_text_33 : decode cX5_text 33 = .ok (.bipush (-100), 2) := by decide +kernel
theorem dX5_text_35 : decode cX5_text 35 = .ok (.iload_n 1, 1) := by decide +kernel
theorem dX5_text_36 : decode cX5_text 36 = .ok (.isub, 1) := by decide +kernel
theorem dX5_text_37 : decode cX5_text 37 = .ok (.ireturn, 1) := by decide +kernel
theorem dX5_text_38 : decode cX5_text 38 = .ok (.aload_n 0, 1) := by decide +kernel
theorem dX5_text_39 : decode cX5_text 39 = .ok (.getfield 11, 3) := by decide +kernel
theorem dX5_text_42 : decode cX5_text 42 = .ok (.aload_n 0, 1) := by decide +kernel
theorem dX5_text_43 : decode cX5_text 43 = .ok (.getfield 125, 3) := by decide +kernel
theorem dX5_text_46 : decode cX5_text 46 = .ok (.aaload, 1) := by decide +kernel
theorem dX5_text_47 : decode cX5_text 47 = .ok (.aload_n 0, 1) := by decide +kernel
theorem dX5_text_48 : decode cX5_text 48 = .ok (.getfield 18, 3) := by decide +kernel
theorem dX5_text_51 : decode cX5_text 51 = .ok (.invokevirtual 134, 3) := by decide +kernel
theorem dX5_text_54 : decode cX5_text 54 = .ok (.aload_n 0, 1) := by decide +kernel
theorem dX5_text_55 : decode cX5_text 55 = .ok (.dup, 1) := by decide +kernel
theorem dX5_text_56 : decode cX5_text 56 = .ok (.getfield 125, 3) := by decide +kernel
theorem dX5_text_59 : decode cX5_text 59 = .ok (.iconst 1, 1) := by decide +kernel
theorem dX5_text_60 : decode cX5_text 60 = .ok (.iadd, 1) := by decide +kernel
theorem dX5_text_61 : decode cX5_text 61 = .ok (.putfield 125, 3) := by decide +kernel
theorem dX5_text_64 : decode cX5_text 64 = .ok (.aload_n 0, 1) := by decide +kernel
theorem dX5_text_65 : decode cX5_text 65 = .ok (.getfield 125, 3) := by decide +kernel
theorem dX5_text_68 : decode cX5_text 68 = .ok (.iconst 1, 1) := by decide +kernel
theorem dX5_text_69 : decode cX5_text 69 = .ok (.isub, 1) := by decide +kernel
theorem dX5_text_70 : decode cX5_text 70 = .ok (.ireturn, 1) := by decide +kernel
theorem dX5_force_0 : decode cX5_force 0 = .ok (.iload_n 1, 1) := by decide +kernel
theorem dX5_force_1 : decode cX5_force 1 = .ok (.iconst 0, 1) := by decide +kernel
theorem dX5_force_2 : decode cX5_force 2 = .ok (.aload_n 0, 1) := by decide +kernel
theorem dX5_force_3 : decode cX5_force 3 = .ok (.getfield 125, 3) := by decide +kernel
theorem dX5_force_6 : decode cX5_force 6 = .ok (.iconst 1, 1) := by decide +kernel
theorem dX5_force_7 : decode cX5_force 7 = .ok (.isub, 1) := by decide +kernel
theorem dX5_force_8 : decode cX5_force 8 = .ok (.invokestatic 78, 3) := by decide +kernel
theorem dX5_force_11 : decode cX5_force 11 = .ok (.ifCond .ne 6, 3) := by decide +kernel
theorem dX5_force_14 : decode cX5_force 14 = .ok (.bipush (-2), 2) := by decide +kernel
theorem dX5_force_16 : decode cX5_force 16 = .ok (.ireturn, 1) := by decide +kernel
theorem dX5_force_17 : decode cX5_force 17 = .ok (.aload_n 0, 1) := by decide +kernel
theorem dX5_force_18 : decode cX5_force 18 = .ok (.getfield 34, 3) := by decide +kernel
theorem dX5_force_21 : decode cX5_force 21 = .ok (.getfield 138, 3) := by decide +kernel
theorem dX5_force_24 : decode cX5_force 24 = .ok (.istore_n 2, 1) := by decide +kernel
theorem dX5_force_25 : decode cX5_force 25 = .ok (.aload_n 0, 1) := by decide +kernel
theorem dX5_force_26 : decode cX5_force 26 = .ok (.getfield 34, 3) := by decide +kernel
theorem dX5_force_29 : decode cX5_force 29 = .ok (.iload_n 1, 1) := by decide +kernel
theorem dX5_force_30 : decode cX5_force 30 = .ok (.putfield 138, 3) := by decide +kernel
theorem dX5_force_33 : decode cX5_force 33 = .ok (.iload_n 2, 1) := by decide +kernel
theorem dX5_force_34 : decode cX5_force 34 = .ok (.ireturn, 1) := by decide +kernel
theorem dX5_day_0 : decode cX5_day 0 = .ok (.aload_n 0, 1) := by decide +kernel
theorem dX5_day_1 : decode cX5_day 1 = .ok (.getfield 34, 3) := by decide +kernel
theorem dX5_day_4 : decode cX5_day 4 = .ok (.getfield 82, 3) := by decide +kernel
theorem dX5_day_7 : decode cX5_day 7 = .ok (.sipush 999, 3) := by decide +kernel
theorem dX5_day_10 : decode cX5_day 10 = .ok (.if_icmp .lt 6, 3) := by decide +kernel
theorem dX5_day_13 : decode cX5_day 13 = .ok (.bipush (-3), 2) := by decide +kernel
theorem dX5_day_15 : decode cX5_day 15 = .ok (.ireturn, 1) := by decide +kernel
theorem dX5_day_16 : decode cX5_day 16 = .ok (.aload_n 0, 1) := by decide +kernel
theorem dX5_day_17 : decode cX5_day 17 = .ok (.getfield 34, 3) := by decide +kernel
theorem dX5_day_20 : decode cX5_day 20 = .ok (.invokevirtual 141, 3) := by decide +kernel
theorem dX5_day_23 : decode cX5_day 23 = .ok (.aload_n 0, 1) := by decide +kernel
theorem dX5_day_24 : decode cX5_day 24 = .ok (.getfield 34, 3) := by decide +kernel
theorem dX5_day_27 : decode cX5_day 27 = .ok (.invokevirtual 144, 3) := by decide +kernel
theorem dX5_day_30 : decode cX5_day 30 = .ok (.ireturn, 1) := by decide +kernel
theorem dX5_draw_0 : decode cX5_draw 0 = .ok (.aload_n 0, 1) := by decide +kernel
theorem dX5_draw_1 : decode cX5_draw 1 = .ok (.getfield 34, 3) := by decide +kernel
theorem dX5_draw_4 : decode cX5_draw 4 = .ok (.iload_n 1, 1) := by decide +kernel
theorem dX5_draw_5 : decode cX5_draw 5 = .ok (.invokevirtual 106, 3) := by decide +kernel
theorem dX5_draw_8 : decode cX5_draw 8 = .ok (.ifCond .eq 30, 3) := by decide +kernel
theorem dX5_draw_11 : decode cX5_draw 11 = .ok (.aload_n 0, 1) := by decide +kernel
theorem dX5_draw_12 : decode cX5_draw 12 = .ok (.getfield 34, 3) := by decide +kernel
theorem dX5_draw_15 : decode cX5_draw 15 = .ok (.iload_n 2, 1) := by decide +kernel
theorem dX5_draw_16 : decode cX5_draw 16 = .ok (.invokevirtual 106, 3) := by decide +kernel
theorem dX5_draw_19 : decode cX5_draw 19 = .ok (.ifCond .eq 19, 3) := by decide +kernel
theorem dX5_draw_22 : decode cX5_draw 22 = .ok (.iload_n 1, 1) := by decide +kernel
theorem dX5_draw_23 : decode cX5_draw 23 = .ok (.iload_n 2, 1) := by decide +kernel
theorem dX5_draw_24 : decode cX5_draw 24 = .ok (.if_icmp .eq 14, 3) := by decide +kernel
theorem dX5_draw_27 : decode cX5_draw 27 = .ok (.iload_n 3, 1) := by decide +kernel
theorem dX5_draw_28 : decode cX5_draw 28 = .ok (.iconst 0, 1) := by decide +kernel
theorem dX5_draw_29 : decode cX5_draw 29 = .ok (.sipush 999, 3) := by decide +kernel
theorem dX5_draw_32 : decode cX5_draw 32 = .ok (.invokestatic 78, 3) := by decide +kernel
theorem dX5_draw_35 : decode cX5_draw 35 = .ok (.ifCond .ne 6, 3) := by decide +kernel
theorem dX5_draw_38 : decode cX5_draw 38 = .ok (.bipush (-2), 2) := by decide +kernel
theorem dX5_draw_40 : decode cX5_draw 40 = .ok (.ireturn, 1) := by decide +kernel
theorem dX5_draw_41 : decode cX5_draw 41 = .ok (.aload_n 0, 1) := by decide +kernel
theorem dX5_draw_42 : decode cX5_draw 42 = .ok (.getfield 34, 3) := by decide +kernel
theorem dX5_draw_45 : decode cX5_draw 45 = .ok (.getfield 93, 3) := by decide +kernel
theorem dX5_draw_48 : decode cX5_draw 48 = .ok (.iload_n 1, 1) := by decide +kernel
theorem dX5_draw_49 : decode cX5_draw 49 = .ok (.iaload, 1) := by decide +kernel
theorem dX5_draw_50 : decode cX5_draw 50 = .ok (.iload_n 3, 1) := by decide +kernel
theorem dX5_draw_51 : decode cX5_draw 51 = .ok (.if_icmp .ge 6, 3) := by decide +kernel
theorem dX5_draw_54 : decode cX5_draw 54 = .ok (.bipush (-3), 2) := by decide +kernel
theorem dX5_draw_56 : decode cX5_draw 56 = .ok (.ireturn, 1) := by decide +kernel
theorem dX5_draw_57 : decode cX5_draw 57 = .ok (.aload_n 0, 1) := by decide +kernel
theorem dX5_draw_58 : decode cX5_draw 58 = .ok (.getfield 34, 3) := by decide +kernel
theorem dX5_draw_61 : decode cX5_draw 61 = .ok (.iload_n 1, 1) := by decide +kernel
theorem dX5_draw_62 : decode cX5_draw 62 = .ok (.iload_n 2, 1) := by decide +kernel
theorem dX5_draw_63 : decode cX5_draw 63 = .ok (.iload_n 3, 1) := by decide +kernel
theorem dX5_draw_64 : decode cX5_draw 64 = .ok (.invokevirtual 147, 3) := by decide +kernel
theorem dX5_draw_67 : decode cX5_draw 67 = .ok (.aload_n 0, 1) := by decide +kernel
theorem dX5_draw_68 : decode cX5_draw 68 = .ok (.getfield 34, 3) := by decide +kernel
theorem dX5_draw_71 : decode cX5_draw 71 = .ok (.getfield 93, 3) := by decide +kernel
theorem dX5_draw_74 : decode cX5_draw 74 = .ok (.iload_n 1, 1) := by decide +kernel
theorem dX5_draw_75 : decode cX5_draw 75 = .ok (.iaload, 1) := by decide +kernel
theorem dX5_draw_76 : decode cX5_draw 76 = .ok (.ireturn, 1) := by decide +kernel
theorem dX5_run_0 : decode cX5_run 0 = .ok (.aload_n 0, 1) := by decide +kernel
theorem dX5_run_1 : decode cX5_run 1 = .ok (.getfield 34, 3) := by decide +kernel
theorem dX5_run_4 : decode cX5_run 4 = .ok (.iload_n 1, 1) := by decide +kernel
theorem dX5_run_5 : decode cX5_run 5 = .ok (.invokevirtual 106, 3) := by decide +kernel
theorem dX5_run_8 : decode cX5_run 8 = .ok (.ifCond .eq 22, 3) := by decide +kernel
theorem dX5_run_11 : decode cX5_run 11 = .ok (.iload_n 2, 1) := by decide +kernel
theorem dX5_run_12 : decode cX5_run 12 = .ok (.iconst 0, 1) := by decide +kernel
theorem dX5_run_13 : decode cX5_run 13 = .ok (.bipush 40, 2) := by decide +kernel
theorem dX5_run_15 : decode cX5_run 15 = .ok (.invokestatic 78, 3) := by decide +kernel
theorem dX5_run_18 : decode cX5_run 18 = .ok (.ifCond .eq 12, 3) := by decide +kernel
theorem dX5_run_21 : decode cX5_run 21 = .ok (.iload_n 3, 1) := by decide +kernel
theorem dX5_run_22 : decode cX5_run 22 = .ok (.iconst 0, 1) := by decide +kernel
theorem dX5_run_23 : decode cX5_run 23 = .ok (.iconst 2, 1) := by decide +kernel
theorem dX5_run_24 : decode cX5_run 24 = .ok (.invokestatic 78, 3) := by decide +kernel
theorem dX5_run_27 : decode cX5_run 27 = .ok (.ifCond .ne 6, 3) := by decide +kernel
theorem dX5_run_30 : decode cX5_run 30 = .ok (.bipush (-2), 2) := by decide +kernel
theorem dX5_run_32 : decode cX5_run 32 = .ok (.ireturn, 1) := by decide +kernel
theorem dX5_run_33 : decode cX5_run 33 = .ok (.aload_n 0, 1) := by decide +kernel
theorem dX5_run_34 : decode cX5_run 34 = .ok (.getfield 38, 3) := by decide +kernel
theorem dX5_run_37 : decode cX5_run 37 = .ok (.aload_n 0, 1) := by decide +kernel
theorem dX5_run_38 : decode cX5_run 38 = .ok (.getfield 34, 3) := by decide +kernel
theorem dX5_run_41 : decode cX5_run 41 = .ok (.invokevirtual 151, 3) := by decide +kernel
theorem dX5_run_44 : decode cX5_run 44 = .ok (.aload_n 0, 1) := by decide +kernel
theorem dX5_run_45 : decode cX5_run 45 = .ok (.getfield 38, 3) := by decide +kernel
theorem dX5_run_48 : decode cX5_run 48 = .ok (.iload_n 2, 1) := by decide +kernel
theorem dX5_run_49 : decode cX5_run 49 = .ok (.invokevirtual 154, 3) := by decide +kernel
theorem dX5_run_52 : decode cX5_run 52 = .ok (.iload_n 3, 1) := by decide +kernel
theorem dX5_run_53 : decode cX5_run 53 = .ok (.lookupswitch 46 #[(0, 27), (1, 37)], 27) := by decide +kernel
theorem dX5_run_80 : decode cX5_run 80 = .ok (.aload_n 0, 1) := by decide +kernel
theorem dX5_run_81 : decode cX5_run 81 = .ok (.getfield 38, 3) := by decide +kernel
theorem dX5_run_84 : decode cX5_run 84 = .ok (.getfield 93, 3) := by decide +kernel
theorem dX5_run_87 : decode cX5_run 87 = .ok (.iload_n 1, 1) := by decide +kernel
theorem dX5_run_88 : decode cX5_run 88 = .ok (.iaload, 1) := by decide +kernel
theorem dX5_run_89 : decode cX5_run 89 = .ok (.ireturn, 1) := by decide +kernel
theorem dX5_run_90 : decode cX5_run 90 = .ok (.aload_n 0, 1) := by decide +kernel
theorem dX5_run_91 : decode cX5_run 91 = .ok (.getfield 38, 3) := by decide +kernel
theorem dX5_run_94 : decode cX5_run 94 = .ok (.iload_n 1, 1) := by decide +kernel
theorem dX5_run_95 : decode cX5_run 95 = .ok (.invokevirtual 122, 3) := by decide +kernel
theorem dX5_run_98 : decode cX5_run 98 = .ok (.ireturn, 1) := by decide +kernel
theorem dX5_run_99 : decode cX5_run 99 = .ok (.aload_n 0, 1) := by decide +kernel
theorem dX5_run_100 : decode cX5_run 100 = .ok (.getfield 38, 3) := by decide +kernel
theorem dX5_run_103 : decode cX5_run 103 = .ok (.invokevirtual 144, 3) := by decide +kernel
theorem dX5_run_106 : decode cX5_run 106 = .ok (.ireturn, 1) := by decide +kernel
theorem dX5_all_0 : decode cX5_all 0 = .ok (.iload_n 1, 1) := by decide +kernel
theorem dX5_all_1 : decode cX5_all 1 = .ok (.tableswitch 85 0 3 #[31, 39, 69, 77], 31) := by decide +kernel
theorem dX5_all_32 : decode cX5_all 32 = .ok (.aload_n 0, 1) := by decide +kernel
theorem dX5_all_33 : decode cX5_all 33 = .ok (.getfield 34, 3) := by decide +kernel
theorem dX5_all_36 : decode cX5_all 36 = .ok (.invokevirtual 158, 3) := by decide +kernel
theorem dX5_all_39 : decode cX5_all 39 = .ok (.ireturn, 1) := by decide +kernel
theorem dX5_all_40 : decode cX5_all 40 = .ok (.aload_n 0, 1) := by decide +kernel
theorem dX5_all_41 : decode cX5_all 41 = .ok (.getfield 34, 3) := by decide +kernel
theorem dX5_all_44 : decode cX5_all 44 = .ok (.invokevirtual 158, 3) := by decide +kernel
theorem dX5_all_47 : decode cX5_all 47 = .ok (.iconst (-1), 1) := by decide +kernel
theorem dX5_all_48 : decode cX5_all 48 = .ok (.if_icmp .ne 7, 3) := by decide +kernel
theorem dX5_all_51 : decode cX5_all 51 = .ok (.iconst 0, 1) := by decide +kernel
theorem dX5_all_52 : decode cX5_all 52 = .ok (.goto 17, 3) := by decide +kernel
theorem dX5_all_55 : decode cX5_all 55 = .ok (.aload_n 0, 1) := by decide +kernel
theorem dX5_all_56 : decode cX5_all 56 = .ok (.getfield 34, 3) := by decide +kernel
theorem dX5_all_59 : decode cX5_all 59 = .ok (.aload_n 0, 1) := by decide +kernel
theorem dX5_all_60 : decode cX5_all 60 = .ok (.getfield 34, 3) := by decide +kernel
theorem dX5_all_63 : decode cX5_all 63 = .ok (.invokevirtual 158, 3) := by decide +kernel
theorem dX5_all_66 : decode cX5_all 66 = .ok (.invokevirtual 122, 3) := by decide +kernel
theorem dX5_all_69 : decode cX5_all 69 = .ok (.ireturn, 1) := by decide +kernel
theorem dX5_all_70 : decode cX5_all 70 = .ok (.aload_n 0, 1) := by decide +kernel
theorem dX5_all_71 : decode cX5_all 71 = .ok (.getfield 34, 3) := by decide +kernel
theorem dX5_all_74 : decode cX5_all 74 = .ok (.invokevirtual 161, 3) := by decide +kernel
theorem dX5_all_77 : decode cX5_all 77 = .ok (.ireturn, 1) := by decide +kernel
theorem dX5_all_78 : decode cX5_all 78 = .ok (.aload_n 0, 1) := by decide +kernel
theorem dX5_all_79 : decode cX5_all 79 = .ok (.getfield 34, 3) := by decide +kernel
theorem dX5_all_82 : decode cX5_all 82 = .ok (.invokevirtual 164, 3) := by decide +kernel
theorem dX5_all_85 : decode cX5_all 85 = .ok (.ireturn, 1) := by decide +kernel
theorem dX5_all_86 : decode cX5_all 86 = .ok (.bipush (-2), 2) := by decide +kernel
theorem dX5_all_88 : decode cX5_all 88 = .ok (.ireturn, 1) := by decide +kernel
theorem dX5_times_0 : decode cX5_times 0 = .ok (.aload_n 0, 1) := by decide +kernel
theorem dX5_times_1 : decode cX5_times 1 = .ok (.iload_n 1, 1) := by decide +kernel
theorem dX5_times_2 : decode cX5_times 2 = .ok (.invokevirtual 167, 3) := by decide +kernel
theorem dX5_times_5 : decode cX5_times 5 = .ok (.ifCond .ne 7, 3) := by decide +kernel
theorem dX5_times_8 : decode cX5_times 8 = .ok (.ldc2_w 170, 3) := by decide +kernel
theorem dX5_times_11 : decode cX5_times 11 = .ok (.lreturn, 1) := by decide +kernel
theorem dX5_times_12 : decode cX5_times 12 = .ok (.aload_n 0, 1) := by decide +kernel
theorem dX5_times_13 : decode cX5_times 13 = .ok (.aload_n 0, 1) := by decide +kernel
theorem dX5_times_14 : decode cX5_times 14 = .ok (.getfield 34, 3) := by decide +kernel
theorem dX5_times_17 : decode cX5_times 17 = .ok (.iload_n 1, 1) := by decide +kernel
theorem dX5_times_18 : decode cX5_times 18 = .ok (.invokevirtual 172, 3) := by decide +kernel
theorem dX5_times_21 : decode cX5_times 21 = .ok (.i2l, 1) := by decide +kernel
theorem dX5_times_22 : decode cX5_times 22 = .ok (.lreturn, 1) := by decide +kernel
theorem dX5_fewest_0 : decode cX5_fewest 0 = .ok (.aload_n 0, 1) := by decide +kernel
theorem dX5_fewest_1 : decode cX5_fewest 1 = .ok (.iload_n 1, 1) := by decide +kernel
theorem dX5_fewest_2 : decode cX5_fewest 2 = .ok (.invokevirtual 167, 3) := by decide +kernel
theorem dX5_fewest_5 : decode cX5_fewest 5 = .ok (.ifCond .eq 19, 3) := by decide +kernel
theorem dX5_fewest_8 : decode cX5_fewest 8 = .ok (.iload_n 2, 1) := by decide +kernel
theorem dX5_fewest_9 : decode cX5_fewest 9 = .ok (.invokestatic 176, 3) := by decide +kernel
theorem dX5_fewest_12 : decode cX5_fewest 12 = .ok (.ifCond .eq 12, 3) := by decide +kernel
theorem dX5_fewest_15 : decode cX5_fewest 15 = .ok (.iload_n 3, 1) := by decide +kernel
theorem dX5_fewest_16 : decode cX5_fewest 16 = .ok (.iconst 0, 1) := by decide +kernel
theorem dX5_fewest_17 : decode cX5_fewest 17 = .ok (.iconst 2, 1) := by decide +kernel
theorem dX5_fewest_18 : decode cX5_fewest 18 = .ok (.invokestatic 78, 3) := by decide +kernel
theorem dX5_fewest_21 : decode cX5_fewest 21 = .ok (.ifCond .ne 6, 3) := by decide +kernel
theorem dX5_fewest_24 : decode cX5_fewest 24 = .ok (.bipush (-2), 2) := by decide +kernel
theorem dX5_fewest_26 : decode cX5_fewest 26 = .ok (.ireturn, 1) := by decide +kernel
theorem dX5_fewest_27 : decode cX5_fewest 27 = .ok (.iload_n 3, 1) := by decide +kernel
theorem dX5_fewest_28 : decode cX5_fewest 28 = .ok (.iconst 2, 1) := by decide +kernel
theorem dX5_fewest_29 : decode cX5_fewest 29 = .ok (.if_icmp .ne 17, 3) := by decide +kernel
theorem dX5_fewest_32 : decode cX5_fewest 32 = .ok (.aload_n 0, 1) := by decide +kernel
theorem dX5_fewest_33 : decode cX5_fewest 33 = .ok (.aload_n 0, 1) := by decide +kernel
theorem dX5_fewest_34 : decode cX5_fewest 34 = .ok (.getfield 34, 3) := by decide +kernel
theorem dX5_fewest_37 : decode cX5_fewest 37 = .ok (.iload_n 1, 1) := by decide +kernel
theorem dX5_fewest_38 : decode cX5_fewest 38 = .ok (.invokevirtual 172, 3) := by decide +kernel
theorem dX5_fewest_41 : decode cX5_fewest 41 = .ok (.iload_n 2, 1) := by decide +kernel
theorem dX5_fewest_42 : decode cX5_fewest 42 = .ok (.invokestatic 179, 3) := by decide +kernel
theorem dX5_fewest_45 : decode cX5_fewest 45 = .ok (.ireturn, 1) := by decide +kernel
theorem dX5_fewest_46 : decode cX5_fewest 46 = .ok (.aload_n 0, 1) := by decide +kernel
theorem dX5_fewest_47 : decode cX5_fewest 47 = .ok (.iload_n 1, 1) := by decide +kernel
theorem dX5_fewest_48 : decode cX5_fewest 48 = .ok (.invokevirtual 182, 3) := by decide +kernel
theorem dX5_fewest_51 : decode cX5_fewest 51 = .ok (.iload_n 3, 1) := by decide +kernel
theorem dX5_fewest_52 : decode cX5_fewest 52 = .ok (.ifCond .ne 14, 3) := by decide +kernel
theorem dX5_fewest_55 : decode cX5_fewest 55 = .ok (.aload_n 0, 1) := by decide +kernel
theorem dX5_fewest_56 : decode cX5_fewest 56 = .ok (.getfield 25, 3) := by decide +kernel
theorem dX5_fewest_59 : decode cX5_fewest 59 = .ok (.iload_n 2, 1) := by decide +kernel
theorem dX5_fewest_60 : decode cX5_fewest 60 = .ok (.invokevirtual 185, 3) := by decide +kernel
theorem dX5_fewest_63 : decode cX5_fewest 63 = .ok (.goto 11, 3) := by decide +kernel
theorem dX5_fewest_66 : decode cX5_fewest 66 = .ok (.aload_n 0, 1) := by decide +kernel
theorem dX5_fewest_67 : decode cX5_fewest 67 = .ok (.getfield 25, 3) := by decide +kernel
theorem dX5_fewest_70 : decode cX5_fewest 70 = .ok (.iload_n 2, 1) := by decide +kernel
theorem dX5_fewest_71 : decode cX5_fewest 71 = .ok (.invokevirtual 188, 3) := by decide +kernel
theorem dX5_fewest_74 : decode cX5_fewest 74 = .ok (.ireturn, 1) := by decide +kernel
theorem dX5_best_0 : decode cX5_best 0 = .ok (.iload_n 1, 1) := by decide +kernel
theorem dX5_best_1 : decode cX5_best 1 = .ok (.invokestatic 176, 3) := by decide +kernel
theorem dX5_best_4 : decode cX5_best 4 = .ok (.ifCond .eq 12, 3) := by decide +kernel
theorem dX5_best_7 : decode cX5_best 7 = .ok (.iload_n 2, 1) := by decide +kernel
theorem dX5_best_8 : decode cX5_best 8 = .ok (.iconst 0, 1) := by decide +kernel
theorem dX5_best_9 : decode cX5_best 9 = .ok (.iconst 1, 1) := by decide +kernel
theorem dX5_best_10 : decode cX5_best 10 = .ok (.invokestatic 78, 3) := by decide +kernel
theorem dX5_best_13 : decode cX5_best 13 = .ok (.ifCond .ne 6, 3) := by decide +kernel
theorem dX5_best_16 : decode cX5_best 16 = .ok (.bipush (-2), 2) := by decide +kernel
theorem dX5_best_18 : decode cX5_best 18 = .ok (.ireturn, 1) := by decide +kernel
theorem dX5_best_19 : decode cX5_best 19 = .ok (.aload_n 0, 1) := by decide +kernel
theorem dX5_best_20 : decode cX5_best 20 = .ok (.getfield 34, 3) := by decide +kernel
theorem dX5_best_23 : decode cX5_best 23 = .ok (.getfield 191, 3) := by decide +kernel
theorem dX5_best_26 : decode cX5_best 26 = .ok (.iconst 4, 1) := by decide +kernel
theorem dX5_best_27 : decode cX5_best 27 = .ok (.if_icmp .le 6, 3) := by decide +kernel
theorem dX5_best_30 : decode cX5_best 30 = .ok (.bipush (-3), 2) := by decide +kernel
theorem dX5_best_32 : decode cX5_best 32 = .ok (.ireturn, 1) := by decide +kernel
theorem dX5_best_33 : decode cX5_best 33 = .ok (.iconst (-1), 1) := by decide +kernel
theorem dX5_best_34 : decode cX5_best 34 = .ok (.istore_n 3, 1) := by decide +kernel
theorem dX5_best_35 : decode cX5_best 35 = .ok (.iconst (-1), 1) := by decide +kernel
theorem dX5_best_36 : decode cX5_best 36 = .ok (.istore 4, 2) := by decide +kernel
theorem dX5_best_38 : decode cX5_best 38 = .ok (.iconst 0, 1) := by decide +kernel
theorem dX5_best_39 : decode cX5_best 39 = .ok (.istore 5, 2) := by decide +kernel
theorem dX5_best_41 : decode cX5_best 41 = .ok (.iload 5, 2) := by decide +kernel
theorem dX5_best_43 : decode cX5_best 43 = .ok (.aload_n 0, 1) := by decide +kernel
theorem dX5_best_44 : decode cX5_best 44 = .ok (.getfield 34, 3) := by decide +kernel
theorem dX5_best_47 : decode cX5_best 47 = .ok (.getfield 191, 3) := by decide +kernel
theorem dX5_best_50 : decode cX5_best 50 = .ok (.if_icmp .ge 115, 3) := by decide +kernel
theorem dX5_best_53 : decode cX5_best 53 = .ok (.iload 5, 2) := by decide +kernel
theorem dX5_best_55 : decode cX5_best 55 = .ok (.iconst 1, 1) := by decide +kernel
theorem dX5_best_56 : decode cX5_best 56 = .ok (.iadd, 1) := by decide +kernel
theorem dX5_best_57 : decode cX5_best 57 = .ok (.istore 6, 2) := by decide +kernel
theorem dX5_best_59 : decode cX5_best 59 = .ok (.iload 6, 2) := by decide +kernel
theorem dX5_best_61 : decode cX5_best 61 = .ok (.aload_n 0, 1) := by decide +kernel
theorem dX5_best_62 : decode cX5_best 62 = .ok (.getfield 34, 3) := by decide +kernel
theorem dX5_best_65 : decode cX5_best 65 = .ok (.getfield 191, 3) := by decide +kernel
theorem dX5_best_68 : decode cX5_best 68 = .ok (.if_icmp .ge 91, 3) := by decide +kernel
theorem dX5_best_71 : decode cX5_best 71 = .ok (.iload 6, 2) := by decide +kernel
theorem dX5_best_73 : decode cX5_best 73 = .ok (.iconst 1, 1) := by decide +kernel
theorem dX5_best_74 : decode cX5_best 74 = .ok (.iadd, 1) := by decide +kernel
theorem dX5_best_75 : decode cX5_best 75 = .ok (.istore 7, 2) := by decide +kernel
theorem dX5_best_77 : decode cX5_best 77 = .ok (.iload 7, 2) := by decide +kernel
theorem dX5_best_79 : decode cX5_best 79 = .ok (.aload_n 0, 1) := by decide +kernel
theorem dX5_best_80 : decode cX5_best 80 = .ok (.getfield 34, 3) := by decide +kernel
theorem dX5_best_83 : decode cX5_best 83 = .ok (.getfield 191, 3) := by decide +kernel
theorem dX5_best_86 : decode cX5_best 86 = .ok (.if_icmp .ge 67, 3) := by decide +kernel
theorem dX5_best_89 : decode cX5_best 89 = .ok (.iload 5, 2) := by decide +kernel
theorem dX5_best_91 : decode cX5_best 91 = .ok (.bipush 100, 2) := by decide +kernel
theorem dX5_best_93 : decode cX5_best 93 = .ok (.imul, 1) := by decide +kernel
theorem dX5_best_94 : decode cX5_best 94 = .ok (.iload 6, 2) := by decide +kernel
theorem dX5_best_96 : decode cX5_best 96 = .ok (.bipush 10, 2) := by decide +kernel
theorem dX5_best_98 : decode cX5_best 98 = .ok (.imul, 1) := by decide +kernel
theorem dX5_best_99 : decode cX5_best 99 = .ok (.iadd, 1) := by decide +kernel
theorem dX5_best_100 : decode cX5_best 100 = .ok (.iload 7, 2) := by decide +kernel
theorem dX5_best_102 : decode cX5_best 102 = .ok (.iadd, 1) := by decide +kernel
theorem dX5_best_103 : decode cX5_best 103 = .ok (.istore 8, 2) := by decide +kernel
theorem dX5_best_105 : decode cX5_best 105 = .ok (.aload_n 0, 1) := by decide +kernel
theorem dX5_best_106 : decode cX5_best 106 = .ok (.iload 8, 2) := by decide +kernel
theorem dX5_best_108 : decode cX5_best 108 = .ok (.invokevirtual 182, 3) := by decide +kernel
theorem dX5_best_111 : decode cX5_best 111 = .ok (.aload_n 0, 1) := by decide +kernel
theorem dX5_best_112 : decode cX5_best 112 = .ok (.getfield 25, 3) := by decide +kernel
theorem dX5_best_115 : decode cX5_best 115 = .ok (.iload_n 1, 1) := by decide +kernel
theorem dX5_best_116 : decode cX5_best 116 = .ok (.invokevirtual 185, 3) := by decide +kernel
theorem dX5_best_119 : decode cX5_best 119 = .ok (.istore 9, 2) := by decide +kernel
theorem dX5_best_121 : decode cX5_best 121 = .ok (.iload 9, 2) := by decide +kernel
theorem dX5_best_123 : decode cX5_best 123 = .ok (.iconst (-1), 1) := by decide +kernel
theorem dX5_best_124 : decode cX5_best 124 = .ok (.if_icmp .eq 23, 3) := by decide +kernel
theorem dX5_best_127 : decode cX5_best 127 = .ok (.iload 4, 2) := by decide +kernel
theorem dX5_best_129 : decode cX5_best 129 = .ok (.iconst (-1), 1) := by decide +kernel
theorem dX5_best_130 : decode cX5_best 130 = .ok (.if_icmp .eq 10, 3) := by decide +kernel
theorem dX5_best_133 : decode cX5_best 133 = .ok (.iload 9, 2) := by decide +kernel
theorem dX5_best_135 : decode cX5_best 135 = .ok (.iload 4, 2) := by decide +kernel
theorem dX5_best_137 : decode cX5_best 137 = .ok (.if_icmp .ge 10, 3) := by decide +kernel
theorem dX5_best_140 : decode cX5_best 140 = .ok (.iload 8, 2) := by decide +kernel
theorem dX5_best_142 : decode cX5_best 142 = .ok (.istore_n 3, 1) := by decide +kernel
theorem dX5_best_143 : decode cX5_best 143 = .ok (.iload 9, 2) := by decide +kernel
theorem dX5_best_145 : decode cX5_best 145 = .ok (.istore 4, 2) := by decide +kernel
theorem dX5_best_147 : decode cX5_best 147 = .ok (.iinc 7 1, 3) := by decide +kernel
theorem dX5_best_150 : decode cX5_best 150 = .ok (.goto (-73), 3) := by decide +kernel
theorem dX5_best_153 : decode cX5_best 153 = .ok (.iinc 6 1, 3) := by decide +kernel
theorem dX5_best_156 : decode cX5_best 156 = .ok (.goto (-97), 3) := by decide +kernel
theorem dX5_best_159 : decode cX5_best 159 = .ok (.iinc 5 1, 3) := by decide +kernel
theorem dX5_best_162 : decode cX5_best 162 = .ok (.goto (-121), 3) := by decide +kernel
theorem dX5_best_165 : decode cX5_best 165 = .ok (.iload_n 2, 1) := by decide +kernel
theorem dX5_best_166 : decode cX5_best 166 = .ok (.ifCond .ne 7, 3) := by decide +kernel
theorem dX5_best_169 : decode cX5_best 169 = .ok (.iload_n 3, 1) := by decide +kernel
theorem dX5_best_170 : decode cX5_best 170 = .ok (.goto 5, 3) := by decide +kernel
theorem dX5_best_173 : decode cX5_best 173 = .ok (.iload 4, 2) := by decide +kernel
theorem dX5_best_175 : decode cX5_best 175 = .ok (.ireturn, 1) := by decide +kernel
theorem dX5_makes_0 : decode cX5_makes 0 = .ok (.aload_n 0, 1) := by decide +kernel
theorem dX5_makes_1 : decode cX5_makes 1 = .ok (.iload_n 1, 1) := by decide +kernel
theorem dX5_makes_2 : decode cX5_makes 2 = .ok (.invokevirtual 167, 3) := by decide +kernel
theorem dX5_makes_5 : decode cX5_makes 5 = .ok (.ifCond .eq 19, 3) := by decide +kernel
theorem dX5_makes_8 : decode cX5_makes 8 = .ok (.iload_n 2, 1) := by decide +kernel
theorem dX5_makes_9 : decode cX5_makes 9 = .ok (.invokestatic 176, 3) := by decide +kernel
theorem dX5_makes_12 : decode cX5_makes 12 = .ok (.ifCond .eq 12, 3) := by decide +kernel
theorem dX5_makes_15 : decode cX5_makes 15 = .ok (.iload_n 3, 1) := by decide +kernel
theorem dX5_makes_16 : decode cX5_makes 16 = .ok (.iconst 0, 1) := by decide +kernel
theorem dX5_makes_17 : decode cX5_makes 17 = .ok (.iconst 1, 1) := by decide +kernel
theorem dX5_makes_18 : decode cX5_makes 18 = .ok (.invokestatic 78, 3) := by decide +kernel
theorem dX5_makes_21 : decode cX5_makes 21 = .ok (.ifCond .ne 6, 3) := by decide +kernel
theorem dX5_makes_24 : decode cX5_makes 24 = .ok (.bipush (-2), 2) := by decide +kernel
theorem dX5_makes_26 : decode cX5_makes 26 = .ok (.ireturn, 1) := by decide +kernel
theorem dX5_makes_27 : decode cX5_makes 27 = .ok (.iload_n 1, 1) := by decide +kernel
theorem dX5_makes_28 : decode cX5_makes 28 = .ok (.bipush 100, 2) := by decide +kernel
theorem dX5_makes_30 : decode cX5_makes 30 = .ok (.idiv, 1) := by decide +kernel
theorem dX5_makes_31 : decode cX5_makes 31 = .ok (.istore 4, 2) := by decide +kernel
theorem dX5_makes_33 : decode cX5_makes 33 = .ok (.iload_n 1, 1) := by decide +kernel
theorem dX5_makes_34 : decode cX5_makes 34 = .ok (.bipush 10, 2) := by decide +kernel
theorem dX5_makes_36 : decode cX5_makes 36 = .ok (.idiv, 1) := by decide +kernel
theorem dX5_makes_37 : decode cX5_makes 37 = .ok (.bipush 10, 2) := by decide +kernel
theorem dX5_makes_39 : decode cX5_makes 39 = .ok (.irem, 1) := by decide +kernel
theorem dX5_makes_40 : decode cX5_makes 40 = .ok (.istore 5, 2) := by decide +kernel
theorem dX5_makes_42 : decode cX5_makes 42 = .ok (.iload_n 3, 1) := by decide +kernel
theorem dX5_makes_43 : decode cX5_makes 43 = .ok (.ifCond .ne 21, 3) := by decide +kernel
theorem dX5_makes_46 : decode cX5_makes 46 = .ok (.aload_n 0, 1) := by decide +kernel
theorem dX5_makes_47 : decode cX5_makes 47 = .ok (.getfield 34, 3) := by decide +kernel
theorem dX5_makes_50 : decode cX5_makes 50 = .ok (.getfield 93, 3) := by decide +kernel
theorem dX5_makes_53 : decode cX5_makes 53 = .ok (.iload 4, 2) := by decide +kernel
theorem dX5_makes_55 : decode cX5_makes 55 = .ok (.iaload, 1) := by decide +kernel
theorem dX5_makes_56 : decode cX5_makes 56 = .ok (.bipush 40, 2) := by decide +kernel
theorem dX5_makes_58 : decode cX5_makes 58 = .ok (.invokestatic 192, 3) := by decide +kernel
theorem dX5_makes_61 : decode cX5_makes 61 = .ok (.goto 5, 3) := by decide +kernel
theorem dX5_makes_64 : decode cX5_makes 64 = .ok (.bipush 10, 2) := by decide +kernel
theorem dX5_makes_66 : decode cX5_makes 66 = .ok (.istore 6, 2) := by decide +kernel
theorem dX5_makes_68 : decode cX5_makes 68 = .ok (.iconst 0, 1) := by decide +kernel
theorem dX5_makes_69 : decode cX5_makes 69 = .ok (.istore 7, 2) := by decide +kernel
theorem dX5_makes_71 : decode cX5_makes 71 = .ok (.iload 7, 2) := by decide +kernel
theorem dX5_makes_73 : decode cX5_makes 73 = .ok (.iload 6, 2) := by decide +kernel
theorem dX5_makes_75 : decode cX5_makes 75 = .ok (.if_icmp .gt 69, 3) := by decide +kernel
theorem dX5_makes_78 : decode cX5_makes 78 = .ok (.aload_n 0, 1) := by decide +kernel
theorem dX5_makes_79 : decode cX5_makes 79 = .ok (.getfield 38, 3) := by decide +kernel
theorem dX5_makes_82 : decode cX5_makes 82 = .ok (.aload_n 0, 1) := by decide +kernel
theorem dX5_makes_83 : decode cX5_makes 83 = .ok (.getfield 34, 3) := by decide +kernel
theorem dX5_makes_86 : decode cX5_makes 86 = .ok (.invokevirtual 151, 3) := by decide +kernel
theorem dX5_makes_89 : decode cX5_makes 89 = .ok (.iload_n 3, 1) := by decide +kernel
theorem dX5_makes_90 : decode cX5_makes 90 = .ok (.ifCond .ne 19, 3) := by decide +kernel
theorem dX5_makes_93 : decode cX5_makes 93 = .ok (.aload_n 0, 1) := by decide +kernel
theorem dX5_makes_94 : decode cX5_makes 94 = .ok (.getfield 38, 3) := by decide +kernel
theorem dX5_makes_97 : decode cX5_makes 97 = .ok (.iload 4, 2) := by decide +kernel
theorem dX5_makes_99 : decode cX5_makes 99 = .ok (.iload 5, 2) := by decide +kernel
theorem dX5_makes_101 : decode cX5_makes 101 = .ok (.iload 7, 2) := by decide +kernel
theorem dX5_makes_103 : decode cX5_makes 103 = .ok (.invokevirtual 147, 3) := by decide +kernel
theorem dX5_makes_106 : decode cX5_makes 106 = .ok (.goto 12, 3) := by decide +kernel
theorem dX5_makes_109 : decode cX5_makes 109 = .ok (.aload_n 0, 1) := by decide +kernel
theorem dX5_makes_110 : decode cX5_makes 110 = .ok (.getfield 38, 3) := by decide +kernel
theorem dX5_makes_113 : decode cX5_makes 113 = .ok (.iload 7, 2) := by decide +kernel
theorem dX5_makes_115 : decode cX5_makes 115 = .ok (.invokevirtual 154, 3) := by decide +kernel
theorem dX5_makes_118 : decode cX5_makes 118 = .ok (.aload_n 0, 1) := by decide +kernel
theorem dX5_makes_119 : decode cX5_makes 119 = .ok (.aload_n 0, 1) := by decide +kernel
theorem dX5_makes_120 : decode cX5_makes 120 = .ok (.getfield 38, 3) := by decide +kernel
theorem dX5_makes_123 : decode cX5_makes 123 = .ok (.iload_n 1, 1) := by decide +kernel
theorem dX5_makes_124 : decode cX5_makes 124 = .ok (.invokevirtual 172, 3) := by decide +kernel
theorem dX5_makes_127 : decode cX5_makes 127 = .ok (.iload_n 2, 1) := by decide +kernel
theorem dX5_makes_128 : decode cX5_makes 128 = .ok (.ishr, 1) := by decide +kernel
theorem dX5_makes_129 : decode cX5_makes 129 = .ok (.iconst 1, 1) := by decide +kernel
theorem dX5_makes_130 : decode cX5_makes 130 = .ok (.iand, 1) := by decide +kernel
theorem dX5_makes_131 : decode cX5_makes 131 = .ok (.iconst 1, 1) := by decide +kernel
theorem dX5_makes_132 : decode cX5_makes 132 = .ok (.if_icmp .ne 6, 3) := by decide +kernel
theorem dX5_makes_135 : decode cX5_makes 135 = .ok (.iload 7, 2) := by decide +kernel
theorem dX5_makes_137 : decode cX5_makes 137 = .ok (.ireturn, 1) := by decide +kernel
theorem dX5_makes_138 : decode cX5_makes 138 = .ok (.iinc 7 1, 3) := by decide +kernel
theorem dX5_makes_141 : decode cX5_makes 141 = .ok (.goto (-70), 3) := by decide +kernel
theorem dX5_makes_144 : decode cX5_makes 144 = .ok (.iconst (-1), 1) := by decide +kernel
theorem dX5_makes_145 : decode cX5_makes 145 = .ok (.ireturn, 1) := by decide +kernel
theorem dX5_nextTold_0 : decode cX5_nextTold 0 = .ok (.iload_n 1, 1) := by decide +kernel
theorem dX5_nextTold_1 : decode cX5_nextTold 1 = .ok (.istore_n 2, 1) := by decide +kernel
theorem dX5_nextTold_2 : decode cX5_nextTold 2 = .ok (.iload_n 2, 1) := by decide +kernel
theorem dX5_nextTold_3 : decode cX5_nextTold 3 = .ok (.bipush 30, 2) := by decide +kernel
theorem dX5_nextTold_5 : decode cX5_nextTold 5 = .ok (.if_icmp .gt 20, 3) := by decide +kernel
theorem dX5_nextTold_8 : decode cX5_nextTold 8 = .ok (.iload_n 0, 1) := by decide +kernel
theorem dX5_nextTold_9 : decode cX5_nextTold 9 = .ok (.iload_n 2, 1) := by decide +kernel
theorem dX5_nextTold_10 : decode cX5_nextTold 10 = .ok (.ishr, 1) := by decide +kernel
theorem dX5_nextTold_11 : decode cX5_nextTold 11 = .ok (.iconst 1, 1) := by decide +kernel
theorem dX5_nextTold_12 : decode cX5_nextTold 12 = .ok (.iand, 1) := by decide +kernel
theorem dX5_nextTold_13 : decode cX5_nextTold 13 = .ok (.iconst 1, 1) := by decide +kernel
theorem dX5_nextTold_14 : decode cX5_nextTold 14 = .ok (.if_icmp .ne 5, 3) := by decide +kernel
theorem dX5_nextTold_17 : decode cX5_nextTold 17 = .ok (.iload_n 2, 1) := by decide +kernel
theorem dX5_nextTold_18 : decode cX5_nextTold 18 = .ok (.ireturn, 1) := by decide +kernel
theorem dX5_nextTold_19 : decode cX5_nextTold 19 = .ok (.iinc 2 1, 3) := by decide +kernel
theorem dX5_nextTold_22 : decode cX5_nextTold 22 = .ok (.goto (-20), 3) := by decide +kernel
theorem dX5_nextTold_25 : decode cX5_nextTold 25 = .ok (.iconst (-1), 1) := by decide +kernel
theorem dX5_nextTold_26 : decode cX5_nextTold 26 = .ok (.ireturn, 1) := by decide +kernel
theorem dX5_isThree_0 : decode cX5_isThree 0 = .ok (.iload_n 1, 1) := by decide +kernel
theorem dX5_isThree_1 : decode cX5_isThree 1 = .ok (.iconst 0, 1) := by decide +kernel
theorem dX5_isThree_2 : decode cX5_isThree 2 = .ok (.sipush 999, 3) := by decide +kernel
theorem dX5_isThree_5 : decode cX5_isThree 5 = .ok (.invokestatic 78, 3) := by decide +kernel
theorem dX5_isThree_8 : decode cX5_isThree 8 = .ok (.ifCond .ne 5, 3) := by decide +kernel
theorem dX5_isThree_11 : decode cX5_isThree 11 = .ok (.iconst 0, 1) := by decide +kernel
theorem dX5_isThree_12 : decode cX5_isThree 12 = .ok (.ireturn, 1) := by decide +kernel
theorem dX5_isThree_13 : decode cX5_isThree 13 = .ok (.iload_n 1, 1) := by decide +kernel
theorem dX5_isThree_14 : decode cX5_isThree 14 = .ok (.bipush 100, 2) := by decide +kernel
theorem dX5_isThree_16 : decode cX5_isThree 16 = .ok (.idiv, 1) := by decide +kernel
theorem dX5_isThree_17 : decode cX5_isThree 17 = .ok (.istore_n 2, 1) := by decide +kernel
theorem dX5_isThree_18 : decode cX5_isThree 18 = .ok (.iload_n 1, 1) := by decide +kernel
theorem dX5_isThree_19 : decode cX5_isThree 19 = .ok (.bipush 10, 2) := by decide +kernel
theorem dX5_isThree_21 : decode cX5_isThree 21 = .ok (.idiv, 1) := by decide +kernel
theorem dX5_isThree_22 : decode cX5_isThree 22 = .ok (.bipush 10, 2) := by decide +kernel
theorem dX5_isThree_24 : decode cX5_isThree 24 = .ok (.irem, 1) := by decide +kernel
theorem dX5_isThree_25 : decode cX5_isThree 25 = .ok (.istore_n 3, 1) := by decide +kernel
theorem dX5_isThree_26 : decode cX5_isThree 26 = .ok (.iload_n 1, 1) := by decide +kernel
theorem dX5_isThree_27 : decode cX5_isThree 27 = .ok (.bipush 10, 2) := by decide +kernel
theorem dX5_isThree_29 : decode cX5_isThree 29 = .ok (.irem, 1) := by decide +kernel
theorem dX5_isThree_30 : decode cX5_isThree 30 = .ok (.istore 4, 2) := by decide +kernel
theorem dX5_isThree_32 : decode cX5_isThree 32 = .ok (.aload_n 0, 1) := by decide +kernel
theorem dX5_isThree_33 : decode cX5_isThree 33 = .ok (.getfield 34, 3) := by decide +kernel
theorem dX5_isThree_36 : decode cX5_isThree 36 = .ok (.iload_n 2, 1) := by decide +kernel
theorem dX5_isThree_37 : decode cX5_isThree 37 = .ok (.invokevirtual 106, 3) := by decide +kernel
theorem dX5_isThree_40 : decode cX5_isThree 40 = .ok (.ifCond .eq 47, 3) := by decide +kernel
theorem dX5_isThree_43 : decode cX5_isThree 43 = .ok (.aload_n 0, 1) := by decide +kernel
theorem dX5_isThree_44 : decode cX5_isThree 44 = .ok (.getfield 34, 3) := by decide +kernel
theorem dX5_isThree_47 : decode cX5_isThree 47 = .ok (.iload_n 3, 1) := by decide +kernel
theorem dX5_isThree_48 : decode cX5_isThree 48 = .ok (.invokevirtual 106, 3) := by decide +kernel
theorem dX5_isThree_51 : decode cX5_isThree 51 = .ok (.ifCond .eq 36, 3) := by decide +kernel
theorem dX5_isThree_54 : decode cX5_isThree 54 = .ok (.aload_n 0, 1) := by decide +kernel
theorem dX5_isThree_55 : decode cX5_isThree 55 = .ok (.getfield 34, 3) := by decide +kernel
theorem dX5_isThree_58 : decode cX5_isThree 58 = .ok (.iload 4, 2) := by decide +kernel
theorem dX5_isThree_60 : decode cX5_isThree 60 = .ok (.invokevirtual 106, 3) := by decide +kernel
theorem dX5_isThree_63 : decode cX5_isThree 63 = .ok (.ifCond .eq 24, 3) := by decide +kernel
theorem dX5_isThree_66 : decode cX5_isThree 66 = .ok (.iload_n 2, 1) := by decide +kernel
theorem dX5_isThree_67 : decode cX5_isThree 67 = .ok (.iload_n 3, 1) := by decide +kernel
theorem dX5_isThree_68 : decode cX5_isThree 68 = .ok (.if_icmp .eq 19, 3) := by decide +kernel
theorem dX5_isThree_71 : decode cX5_isThree 71 = .ok (.iload_n 2, 1) := by decide +kernel
theorem dX5_isThree_72 : decode cX5_isThree 72 = .ok (.iload 4, 2) := by decide +kernel
theorem dX5_isThree_74 : decode cX5_isThree 74 = .ok (.if_icmp .eq 13, 3) := by decide +kernel
theorem dX5_isThree_77 : decode cX5_isThree 77 = .ok (.iload_n 3, 1) := by decide +kernel
theorem dX5_isThree_78 : decode cX5_isThree 78 = .ok (.iload 4, 2) := by decide +kernel
theorem dX5_isThree_80 : decode cX5_isThree 80 = .ok (.if_icmp .eq 7, 3) := by decide +kernel
theorem dX5_isThree_83 : decode cX5_isThree 83 = .ok (.iconst 1, 1) := by decide +kernel
theorem dX5_isThree_84 : decode cX5_isThree 84 = .ok (.goto 4, 3) := by decide +kernel
theorem dX5_isThree_87 : decode cX5_isThree 87 = .ok (.iconst 0, 1) := by decide +kernel
theorem dX5_isThree_88 : decode cX5_isThree 88 = .ok (.ireturn, 1) := by decide +kernel
theorem dX5_timesOf_0 : decode cX5_timesOf 0 = .ok (.aload_n 0, 1) := by decide +kernel
theorem dX5_timesOf_1 : decode cX5_timesOf 1 = .ok (.getfield 25, 3) := by decide +kernel
theorem dX5_timesOf_4 : decode cX5_timesOf 4 = .ok (.aload_n 1, 1) := by decide +kernel
theorem dX5_timesOf_5 : decode cX5_timesOf 5 = .ok (.iload_n 2, 1) := by decide +kernel
theorem dX5_timesOf_6 : decode cX5_timesOf 6 = .ok (.bipush 100, 2) := by decide +kernel
theorem dX5_timesOf_8 : decode cX5_timesOf 8 = .ok (.idiv, 1) := by decide +kernel
theorem dX5_timesOf_9 : decode cX5_timesOf 9 = .ok (.invokevirtual 122, 3) := by decide +kernel
theorem dX5_timesOf_12 : decode cX5_timesOf 12 = .ok (.aload_n 1, 1) := by decide +kernel
theorem dX5_timesOf_13 : decode cX5_timesOf 13 = .ok (.iload_n 2, 1) := by decide +kernel
theorem dX5_timesOf_14 : decode cX5_timesOf 14 = .ok (.bipush 10, 2) := by decide +kernel
theorem dX5_timesOf_16 : decode cX5_timesOf 16 = .ok (.idiv, 1) := by decide +kernel
theorem dX5_timesOf_17 : decode cX5_timesOf 17 = .ok (.bipush 10, 2) := by decide +kernel
theorem dX5_timesOf_19 : decode cX5_timesOf 19 = .ok (.irem, 1) := by decide +kernel
theorem dX5_timesOf_20 : decode cX5_timesOf 20 = .ok (.invokevirtual 122, 3) := by decide +kernel
theorem dX5_timesOf_23 : decode cX5_timesOf 23 = .ok (.aload_n 1, 1) := by decide +kernel
theorem dX5_timesOf_24 : decode cX5_timesOf 24 = .ok (.iload_n 2, 1) := by decide +kernel
theorem dX5_timesOf_25 : decode cX5_timesOf 25 = .ok (.bipush 10, 2) := by decide +kernel
theorem dX5_timesOf_27 : decode cX5_timesOf 27 = .ok (.irem, 1) := by decide +kernel
theorem dX5_timesOf_28 : decode cX5_timesOf 28 = .ok (.invokevirtual 122, 3) := by decide +kernel
theorem dX5_timesOf_31 : decode cX5_timesOf 31 = .ok (.invokevirtual 197, 3) := by decide +kernel
theorem dX5_timesOf_34 : decode cX5_timesOf 34 = .ok (.ireturn, 1) := by decide +kernel
theorem dX5_layGlasses_0 : decode cX5_layGlasses 0 = .ok (.aload_n 0, 1) := by decide +kernel
theorem dX5_layGlasses_1 : decode cX5_layGlasses 1 = .ok (.getfield 25, 3) := by decide +kernel
theorem dX5_layGlasses_4 : decode cX5_layGlasses 4 = .ok (.aload_n 0, 1) := by decide +kernel
theorem dX5_layGlasses_5 : decode cX5_layGlasses 5 = .ok (.getfield 34, 3) := by decide +kernel
theorem dX5_layGlasses_8 : decode cX5_layGlasses 8 = .ok (.iload_n 1, 1) := by decide +kernel
theorem dX5_layGlasses_9 : decode cX5_layGlasses 9 = .ok (.bipush 100, 2) := by decide +kernel
theorem dX5_layGlasses_11 : decode cX5_layGlasses 11 = .ok (.idiv, 1) := by decide +kernel
theorem dX5_layGlasses_12 : decode cX5_layGlasses 12 = .ok (.invokevirtual 122, 3) := by decide +kernel
theorem dX5_layGlasses_15 : decode cX5_layGlasses 15 = .ok (.aload_n 0, 1) := by decide +kernel
theorem dX5_layGlasses_16 : decode cX5_layGlasses 16 = .ok (.getfield 34, 3) := by decide +kernel
theorem dX5_layGlasses_19 : decode cX5_layGlasses 19 = .ok (.iload_n 1, 1) := by decide +kernel
theorem dX5_layGlasses_20 : decode cX5_layGlasses 20 = .ok (.bipush 10, 2) := by decide +kernel
theorem dX5_layGlasses_22 : decode cX5_layGlasses 22 = .ok (.idiv, 1) := by decide +kernel
theorem dX5_layGlasses_23 : decode cX5_layGlasses 23 = .ok (.bipush 10, 2) := by decide +kernel
theorem dX5_layGlasses_25 : decode cX5_layGlasses 25 = .ok (.irem, 1) := by decide +kernel
theorem dX5_layGlasses_26 : decode cX5_layGlasses 26 = .ok (.invokevirtual 122, 3) := by decide +kernel
theorem dX5_layGlasses_29 : decode cX5_layGlasses 29 = .ok (.aload_n 0, 1) := by decide +kernel
theorem dX5_layGlasses_30 : decode cX5_layGlasses 30 = .ok (.getfield 34, 3) := by decide +kernel
theorem dX5_layGlasses_33 : decode cX5_layGlasses 33 = .ok (.iload_n 1, 1) := by decide +kernel
theorem dX5_layGlasses_34 : decode cX5_layGlasses 34 = .ok (.bipush 10, 2) := by decide +kernel
theorem dX5_layGlasses_36 : decode cX5_layGlasses 36 = .ok (.irem, 1) := by decide +kernel
theorem dX5_layGlasses_37 : decode cX5_layGlasses 37 = .ok (.invokevirtual 122, 3) := by decide +kernel
theorem dX5_layGlasses_40 : decode cX5_layGlasses 40 = .ok (.invokevirtual 199, 3) := by decide +kernel
theorem dX5_layGlasses_43 : decode cX5_layGlasses 43 = .ok (.return_, 1) := by decide +kernel
theorem dX5_isMinute_0 : decode cX5_isMinute 0 = .ok (.iload_n 0, 1) := by decide +kernel
theorem dX5_isMinute_1 : decode cX5_isMinute 1 = .ok (.iconst 1, 1) := by decide +kernel
theorem dX5_isMinute_2 : decode cX5_isMinute 2 = .ok (.bipush 30, 2) := by decide +kernel
theorem dX5_isMinute_4 : decode cX5_isMinute 4 = .ok (.invokestatic 78, 3) := by decide +kernel
theorem dX5_isMinute_7 : decode cX5_isMinute 7 = .ok (.ireturn, 1) := by decide +kernel
theorem dX5_tells_0 : decode cX5_tells 0 = .ok (.iload_n 1, 1) := by decide +kernel
theorem dX5_tells_1 : decode cX5_tells 1 = .ok (.iconst 0, 1) := by decide +kernel
theorem dX5_tells_2 : decode cX5_tells 2 = .ok (.iconst 3, 1) := by decide +kernel
theorem dX5_tells_3 : decode cX5_tells 3 = .ok (.invokestatic 78, 3) := by decide +kernel
theorem dX5_tells_6 : decode cX5_tells 6 = .ok (.ifCond .eq 24, 3) := by decide +kernel
theorem dX5_tells_9 : decode cX5_tells 9 = .ok (.aload_n 0, 1) := by decide +kernel
theorem dX5_tells_10 : decode cX5_tells 10 = .ok (.getfield 34, 3) := by decide +kernel
theorem dX5_tells_13 : decode cX5_tells 13 = .ok (.iload_n 2, 1) := by decide +kernel
theorem dX5_tells_14 : decode cX5_tells 14 = .ok (.invokevirtual 106, 3) := by decide +kernel
theorem dX5_tells_17 : decode cX5_tells 17 = .ok (.ifCond .eq 13, 3) := by decide +kernel
theorem dX5_tells_20 : decode cX5_tells 20 = .ok (.iload_n 3, 1) := by decide +kernel
theorem dX5_tells_21 : decode cX5_tells 21 = .ok (.iconst 0, 1) := by decide +kernel
theorem dX5_tells_22 : decode cX5_tells 22 = .ok (.bipush 7, 2) := by decide +kernel
theorem dX5_tells_24 : decode cX5_tells 24 = .ok (.invokestatic 78, 3) := by decide +kernel
theorem dX5_tells_27 : decode cX5_tells 27 = .ok (.ifCond .ne 6, 3) := by decide +kernel
theorem dX5_tells_30 : decode cX5_tells 30 = .ok (.bipush (-2), 2) := by decide +kernel
theorem dX5_tells_32 : decode cX5_tells 32 = .ok (.ireturn, 1) := by decide +kernel
theorem dX5_tells_33 : decode cX5_tells 33 = .ok (.aload_n 0, 1) := by decide +kernel
theorem dX5_tells_34 : decode cX5_tells 34 = .ok (.getfield 46, 3) := by decide +kernel
theorem dX5_tells_37 : decode cX5_tells 37 = .ok (.iload_n 1, 1) := by decide +kernel
theorem dX5_tells_38 : decode cX5_tells 38 = .ok (.aaload, 1) := by decide +kernel
theorem dX5_tells_39 : decode cX5_tells 39 = .ok (.astore 4, 2) := by decide +kernel
theorem dX5_tells_41 : decode cX5_tells 41 = .ok (.aload 4, 2) := by decide +kernel
theorem dX5_tells_43 : decode cX5_tells 43 = .ok (.getfield 202, 3) := by decide +kernel
theorem dX5_tells_46 : decode cX5_tells 46 = .ok (.iconst (-1), 1) := by decide +kernel
theorem dX5_tells_47 : decode cX5_tells 47 = .ok (.if_icmp .ne 6, 3) := by decide +kernel
theorem dX5_tells_50 : decode cX5_tells 50 = .ok (.bipush (-11), 2) := by decide +kernel
theorem dX5_tells_52 : decode cX5_tells 52 = .ok (.ireturn, 1) := by decide +kernel
theorem dX5_tells_53 : decode cX5_tells 53 = .ok (.aload 4, 2) := by decide +kernel
theorem dX5_tells_55 : decode cX5_tells 55 = .ok (.getfield 205, 3) := by decide +kernel
theorem dX5_tells_58 : decode cX5_tells 58 = .ok (.bipush 30, 2) := by decide +kernel
theorem dX5_tells_60 : decode cX5_tells 60 = .ok (.if_icmp .le 6, 3) := by decide +kernel
theorem dX5_tells_63 : decode cX5_tells 63 = .ok (.bipush (-2), 2) := by decide +kernel
theorem dX5_tells_65 : decode cX5_tells 65 = .ok (.ireturn, 1) := by decide +kernel
theorem dX5_tells_66 : decode cX5_tells 66 = .ok (.iload_n 3, 1) := by decide +kernel
theorem dX5_tells_67 : decode cX5_tells 67 = .ok (.ifCond .ne 13, 3) := by decide +kernel
theorem dX5_tells_70 : decode cX5_tells 70 = .ok (.aload_n 0, 1) := by decide +kernel
theorem dX5_tells_71 : decode cX5_tells 71 = .ok (.aload 4, 2) := by decide +kernel
theorem dX5_tells_73 : decode cX5_tells 73 = .ok (.iload_n 2, 1) := by decide +kernel
theorem dX5_tells_74 : decode cX5_tells 74 = .ok (.iload_n 3, 1) := by decide +kernel
theorem dX5_tells_75 : decode cX5_tells 75 = .ok (.iconst 0, 1) := by decide +kernel
theorem dX5_tells_76 : decode cX5_tells 76 = .ok (.invokevirtual 206, 3) := by decide +kernel
theorem dX5_tells_79 : decode cX5_tells 79 = .ok (.ireturn, 1) := by decide +kernel
theorem dX5_tells_80 : decode cX5_tells 80 = .ok (.iconst 0, 1) := by decide +kernel
theorem dX5_tells_81 : decode cX5_tells 81 = .ok (.istore 5, 2) := by decide +kernel
theorem dX5_tells_83 : decode cX5_tells 83 = .ok (.iconst 0, 1) := by decide +kernel
theorem dX5_tells_84 : decode cX5_tells 84 = .ok (.istore 6, 2) := by decide +kernel
theorem dX5_tells_86 : decode cX5_tells 86 = .ok (.iconst (-1), 1) := by decide +kernel
theorem dX5_tells_87 : decode cX5_tells 87 = .ok (.istore 7, 2) := by decide +kernel
theorem dX5_tells_89 : decode cX5_tells 89 = .ok (.aload_n 0, 1) := by decide +kernel
theorem dX5_tells_90 : decode cX5_tells 90 = .ok (.iload_n 3, 1) := by decide +kernel
theorem dX5_tells_91 : decode cX5_tells 91 = .ok (.invokevirtual 210, 3) := by decide +kernel
theorem dX5_tells_94 : decode cX5_tells 94 = .ok (.iconst 1, 1) := by decide +kernel
theorem dX5_tells_95 : decode cX5_tells 95 = .ok (.isub, 1) := by decide +kernel
theorem dX5_tells_96 : decode cX5_tells 96 = .ok (.istore 8, 2) := by decide +kernel
theorem dX5_tells_98 : decode cX5_tells 98 = .ok (.iload 8, 2) := by decide +kernel
theorem dX5_tells_100 : decode cX5_tells 100 = .ok (.ifCond .lt 39, 3) := by decide +kernel
theorem dX5_tells_103 : decode cX5_tells 103 = .ok (.aload_n 0, 1) := by decide +kernel
theorem dX5_tells_104 : decode cX5_tells 104 = .ok (.aload 4, 2) := by decide +kernel
theorem dX5_tells_106 : decode cX5_tells 106 = .ok (.iload_n 2, 1) := by decide +kernel
theorem dX5_tells_107 : decode cX5_tells 107 = .ok (.iload_n 3, 1) := by decide +kernel
theorem dX5_tells_108 : decode cX5_tells 108 = .ok (.iload 8, 2) := by decide +kernel
theorem dX5_tells_110 : decode cX5_tells 110 = .ok (.invokevirtual 206, 3) := by decide +kernel
theorem dX5_tells_113 : decode cX5_tells 113 = .ok (.iconst (-1), 1) := by decide +kernel
theorem dX5_tells_114 : decode cX5_tells 114 = .ok (.if_icmp .ne 19, 3) := by decide +kernel
theorem dX5_tells_117 : decode cX5_tells 117 = .ok (.iload 5, 2) := by decide +kernel
theorem dX5_tells_119 : decode cX5_tells 119 = .ok (.iconst 1, 1) := by decide +kernel
theorem dX5_tells_120 : decode cX5_tells 120 = .ok (.iload 8, 2) := by decide +kernel
theorem dX5_tells_122 : decode cX5_tells 122 = .ok (.ishl, 1) := by decide +kernel
theorem dX5_tells_123 : decode cX5_tells 123 = .ok (.ior, 1) := by decide +kernel
theorem dX5_tells_124 : decode cX5_tells 124 = .ok (.istore 5, 2) := by decide +kernel
theorem dX5_tells_126 : decode cX5_tells 126 = .ok (.iinc 6 1, 3) := by decide +kernel
theorem dX5_tells_129 : decode cX5_tells 129 = .ok (.iload 8, 2) := by decide +kernel
theorem dX5_tells_131 : decode cX5_tells 131 = .ok (.istore 7, 2) := by decide +kernel
theorem dX5_tells_133 : decode cX5_tells 133 = .ok (.iinc 8 (-1), 3) := by decide +kernel
theorem dX5_tells_136 : decode cX5_tells 136 = .ok (.goto (-38), 3) := by decide +kernel
theorem dX5_tells_139 : decode cX5_tells 139 = .ok (.iload_n 3, 1) := by decide +kernel
theorem dX5_tells_140 : decode cX5_tells 140 = .ok (.lookupswitch 34 #[(4, 28), (5, 31)], 28) := by decide +kernel
theorem dX5_tells_168 : decode cX5_tells 168 = .ok (.iload 6, 2) := by decide +kernel
theorem dX5_tells_170 : decode cX5_tells 170 = .ok (.ireturn, 1) := by decide +kernel
theorem dX5_tells_171 : decode cX5_tells 171 = .ok (.iload 7, 2) := by decide +kernel
theorem dX5_tells_173 : decode cX5_tells 173 = .ok (.ireturn, 1) := by decide +kernel
theorem dX5_tells_174 : decode cX5_tells 174 = .ok (.iload 5, 2) := by decide +kernel
theorem dX5_tells_176 : decode cX5_tells 176 = .ok (.ireturn, 1) := by decide +kernel
end
section
theorem dX5_film_0 : decode cX5_film 0 = .ok (.iload_n 1, 1) := by decide +kernel
theorem dX5_film_1 : decode cX5_film 1 = .ok (.iconst 0, 1) := by decide +kernel
theorem dX5_film_2 : decode cX5_film 2 = .ok (.iconst 3, 1) := by decide +kernel
theorem dX5_film_3 : decode cX5_film 3 = .ok (.invokestatic 78, 3) := by decide +kernel
theorem dX5_film_6 : decode cX5_film 6 = .ok (.ifCond .eq 24, 3) := by decide +kernel
theorem dX5_film_9 : decode cX5_film 9 = .ok (.aload_n 0, 1) := by decide +kernel
theorem dX5_film_10 : decode cX5_film 10 = .ok (.getfield 34, 3) := by decide +kernel
theorem dX5_film_13 : decode cX5_film 13 = .ok (.iload_n 2, 1) := by decide +kernel
theorem dX5_film_14 : decode cX5_film 14 = .ok (.invokevirtual 106, 3) := by decide +kernel
theorem dX5_film_17 : decode cX5_film 17 = .ok (.ifCond .eq 13, 3) := by decide +kernel
theorem dX5_film_20 : decode cX5_film 20 = .ok (.iload_n 3, 1) := by decide +kernel
theorem dX5_film_21 : decode cX5_film 21 = .ok (.iconst 0, 1) := by decide +kernel
theorem dX5_film_22 : decode cX5_film 22 = .ok (.bipush 30, 2) := by decide +kernel
theorem dX5_film_24 : decode cX5_film 24 = .ok (.invokestatic 78, 3) := by decide +kernel
theorem dX5_film_27 : decode cX5_film 27 = .ok (.ifCond .ne 6, 3) := by decide +kernel
theorem dX5_film_30 : decode cX5_film 30 = .ok (.bipush (-2), 2) := by decide +kernel
theorem dX5_film_32 : decode cX5_film 32 = .ok (.ireturn, 1) := by decide +kernel
theorem dX5_film_33 : decode cX5_film 33 = .ok (.aload_n 0, 1) := by decide +kernel
theorem dX5_film_34 : decode cX5_film 34 = .ok (.getfield 46, 3) := by decide +kernel
theorem dX5_film_37 : decode cX5_film 37 = .ok (.iload_n 1, 1) := by decide +kernel
theorem dX5_film_38 : decode cX5_film 38 = .ok (.aaload, 1) := by decide +kernel
theorem dX5_film_39 : decode cX5_film 39 = .ok (.astore 4, 2) := by decide +kernel
theorem dX5_film_41 : decode cX5_film 41 = .ok (.aload 4, 2) := by decide +kernel
theorem dX5_film_43 : decode cX5_film 43 = .ok (.iconst 0, 1) := by decide +kernel
theorem dX5_film_44 : decode cX5_film 44 = .ok (.iload_n 3, 1) := by decide +kernel
theorem dX5_film_45 : decode cX5_film 45 = .ok (.invokevirtual 213, 3) := by decide +kernel
theorem dX5_film_48 : decode cX5_film 48 = .ok (.aload_n 0, 1) := by decide +kernel
theorem dX5_film_49 : decode cX5_film 49 = .ok (.getfield 38, 3) := by decide +kernel
theorem dX5_film_52 : decode cX5_film 52 = .ok (.aload_n 0, 1) := by decide +kernel
theorem dX5_film_53 : decode cX5_film 53 = .ok (.getfield 34, 3) := by decide +kernel
theorem dX5_film_56 : decode cX5_film 56 = .ok (.invokevirtual 151, 3) := by decide +kernel
theorem dX5_film_59 : decode cX5_film 59 = .ok (.iconst 0, 1) := by decide +kernel
theorem dX5_film_60 : decode cX5_film 60 = .ok (.istore 5, 2) := by decide +kernel
theorem dX5_film_62 : decode cX5_film 62 = .ok (.iload 5, 2) := by decide +kernel
theorem dX5_film_64 : decode cX5_film 64 = .ok (.iload_n 3, 1) := by decide +kernel
theorem dX5_film_65 : decode cX5_film 65 = .ok (.if_icmp .ge 31, 3) := by decide +kernel
theorem dX5_film_68 : decode cX5_film 68 = .ok (.aload 4, 2) := by decide +kernel
theorem dX5_film_70 : decode cX5_film 70 = .ok (.iload 5, 2) := by decide +kernel
theorem dX5_film_72 : decode cX5_film 72 = .ok (.aload_n 0, 1) := by decide +kernel
theorem dX5_film_73 : decode cX5_film 73 = .ok (.getfield 38, 3) := by decide +kernel
theorem dX5_film_76 : decode cX5_film 76 = .ok (.iload_n 2, 1) := by decide +kernel
theorem dX5_film_77 : decode cX5_film 77 = .ok (.invokevirtual 122, 3) := by decide +kernel
theorem dX5_film_80 : decode cX5_film 80 = .ok (.invokevirtual 216, 3) := by decide +kernel
theorem dX5_film_83 : decode cX5_film 83 = .ok (.aload_n 0, 1) := by decide +kernel
theorem dX5_film_84 : decode cX5_film 84 = .ok (.getfield 38, 3) := by decide +kernel
theorem dX5_film_87 : decode cX5_film 87 = .ok (.invokevirtual 141, 3) := by decide +kernel
theorem dX5_film_90 : decode cX5_film 90 = .ok (.iinc 5 1, 3) := by decide +kernel
theorem dX5_film_93 : decode cX5_film 93 = .ok (.goto (-31), 3) := by decide +kernel
theorem dX5_film_96 : decode cX5_film 96 = .ok (.iload_n 3, 1) := by decide +kernel
theorem dX5_film_97 : decode cX5_film 97 = .ok (.ireturn, 1) := by decide +kernel
theorem dX5_drawn_0 : decode cX5_drawn 0 = .ok (.iload_n 2, 1) := by decide +kernel
theorem dX5_drawn_1 : decode cX5_drawn 1 = .ok (.iconst 0, 1) := by decide +kernel
theorem dX5_drawn_2 : decode cX5_drawn 2 = .ok (.bipush 40, 2) := by decide +kernel
theorem dX5_drawn_4 : decode cX5_drawn 4 = .ok (.invokestatic 78, 3) := by decide +kernel
theorem dX5_drawn_7 : decode cX5_drawn 7 = .ok (.ifCond .ne 6, 3) := by decide +kernel
theorem dX5_drawn_10 : decode cX5_drawn 10 = .ok (.bipush (-2), 2) := by decide +kernel
theorem dX5_drawn_12 : decode cX5_drawn 12 = .ok (.ireturn, 1) := by decide +kernel
theorem dX5_drawn_13 : decode cX5_drawn 13 = .ok (.aload_n 0, 1) := by decide +kernel
theorem dX5_drawn_14 : decode cX5_drawn 14 = .ok (.iload_n 1, 1) := by decide +kernel
theorem dX5_drawn_15 : decode cX5_drawn 15 = .ok (.iload_n 2, 1) := by decide +kernel
theorem dX5_drawn_16 : decode cX5_drawn 16 = .ok (.invokevirtual 219, 3) := by decide +kernel
theorem dX5_drawn_19 : decode cX5_drawn 19 = .ok (.ireturn, 1) := by decide +kernel
theorem dX5_chance_0 : decode cX5_chance 0 = .ok (.iload_n 2, 1) := by decide +kernel
theorem dX5_chance_1 : decode cX5_chance 1 = .ok (.iconst 1, 1) := by decide +kernel
theorem dX5_chance_2 : decode cX5_chance 2 = .ok (.bipush 20, 2) := by decide +kernel
theorem dX5_chance_4 : decode cX5_chance 4 = .ok (.invokestatic 78, 3) := by decide +kernel
theorem dX5_chance_7 : decode cX5_chance 7 = .ok (.ifCond .eq 23, 3) := by decide +kernel
theorem dX5_chance_10 : decode cX5_chance 10 = .ok (.iload_n 3, 1) := by decide +kernel
theorem dX5_chance_11 : decode cX5_chance 11 = .ok (.iconst 0, 1) := by decide +kernel
theorem dX5_chance_12 : decode cX5_chance 12 = .ok (.bipush 99, 2) := by decide +kernel
theorem dX5_chance_14 : decode cX5_chance 14 = .ok (.invokestatic 78, 3) := by decide +kernel
theorem dX5_chance_17 : decode cX5_chance 17 = .ok (.ifCond .eq 13, 3) := by decide +kernel
theorem dX5_chance_20 : decode cX5_chance 20 = .ok (.iload 4, 2) := by decide +kernel
theorem dX5_chance_22 : decode cX5_chance 22 = .ok (.iconst 0, 1) := by decide +kernel
theorem dX5_chance_23 : decode cX5_chance 23 = .ok (.iconst 1, 1) := by decide +kernel
theorem dX5_chance_24 : decode cX5_chance 24 = .ok (.invokestatic 78, 3) := by decide +kernel
theorem dX5_chance_27 : decode cX5_chance 27 = .ok (.ifCond .ne 7, 3) := by decide +kernel
theorem dX5_chance_30 : decode cX5_chance 30 = .ok (.ldc2_w 170, 3) := by decide +kernel
theorem dX5_chance_33 : decode cX5_chance 33 = .ok (.lreturn, 1) := by decide +kernel
theorem dX5_chance_34 : decode cX5_chance 34 = .ok (.iconst 0, 1) := by decide +kernel
theorem dX5_chance_35 : decode cX5_chance 35 = .ok (.istore 5, 2) := by decide +kernel
theorem dX5_chance_37 : decode cX5_chance 37 = .ok (.iconst 0, 1) := by decide +kernel
theorem dX5_chance_38 : decode cX5_chance 38 = .ok (.istore 6, 2) := by decide +kernel
theorem dX5_chance_40 : decode cX5_chance 40 = .ok (.iload 6, 2) := by decide +kernel
theorem dX5_chance_42 : decode cX5_chance 42 = .ok (.iload_n 2, 1) := by decide +kernel
theorem dX5_chance_43 : decode cX5_chance 43 = .ok (.if_icmp .ge 26, 3) := by decide +kernel
theorem dX5_chance_46 : decode cX5_chance 46 = .ok (.aload_n 0, 1) := by decide +kernel
theorem dX5_chance_47 : decode cX5_chance 47 = .ok (.iload_n 1, 1) := by decide +kernel
theorem dX5_chance_48 : decode cX5_chance 48 = .ok (.iload 6, 2) := by decide +kernel
theorem dX5_chance_50 : decode cX5_chance 50 = .ok (.iadd, 1) := by decide +kernel
theorem dX5_chance_51 : decode cX5_chance 51 = .ok (.bipush 10, 2) := by decide +kernel
theorem dX5_chance_53 : decode cX5_chance 53 = .ok (.invokevirtual 219, 3) := by decide +kernel
theorem dX5_chance_56 : decode cX5_chance 56 = .ok (.iload_n 3, 1) := by decide +kernel
theorem dX5_chance_57 : decode cX5_chance 57 = .ok (.if_icmp .lt 6, 3) := by decide +kernel
theorem dX5_chance_60 : decode cX5_chance 60 = .ok (.iinc 5 1, 3) := by decide +kernel
theorem dX5_chance_63 : decode cX5_chance 63 = .ok (.iinc 6 1, 3) := by decide +kernel
theorem dX5_chance_66 : decode cX5_chance 66 = .ok (.goto (-26), 3) := by decide +kernel
theorem dX5_chance_69 : decode cX5_chance 69 = .ok (.iload 5, 2) := by decide +kernel
theorem dX5_chance_71 : decode cX5_chance 71 = .ok (.iload_n 2, 1) := by decide +kernel
theorem dX5_chance_72 : decode cX5_chance 72 = .ok (.invokestatic 222, 3) := by decide +kernel
theorem dX5_chance_75 : decode cX5_chance 75 = .ok (.istore 6, 2) := by decide +kernel
theorem dX5_chance_77 : decode cX5_chance 77 = .ok (.iload 6, 2) := by decide +kernel
theorem dX5_chance_79 : decode cX5_chance 79 = .ok (.ifCond .gt 7, 3) := by decide +kernel
theorem dX5_chance_82 : decode cX5_chance 82 = .ok (.ldc2_w 170, 3) := by decide +kernel
theorem dX5_chance_85 : decode cX5_chance 85 = .ok (.lreturn, 1) := by decide +kernel
theorem dX5_chance_86 : decode cX5_chance 86 = .ok (.iload 4, 2) := by decide +kernel
theorem dX5_chance_88 : decode cX5_chance 88 = .ok (.ifCond .ne 12, 3) := by decide +kernel
theorem dX5_chance_91 : decode cX5_chance 91 = .ok (.iload 5, 2) := by decide +kernel
theorem dX5_chance_93 : decode cX5_chance 93 = .ok (.iload 6, 2) := by decide +kernel
theorem dX5_chance_95 : decode cX5_chance 95 = .ok (.idiv, 1) := by decide +kernel
theorem dX5_chance_96 : decode cX5_chance 96 = .ok (.i2l, 1) := by decide +kernel
theorem dX5_chance_97 : decode cX5_chance 97 = .ok (.goto 8, 3) := by decide +kernel
theorem dX5_chance_100 : decode cX5_chance 100 = .ok (.iload_n 2, 1) := by decide +kernel
theorem dX5_chance_101 : decode cX5_chance 101 = .ok (.iload 6, 2) := by decide +kernel
theorem dX5_chance_103 : decode cX5_chance 103 = .ok (.idiv, 1) := by decide +kernel
theorem dX5_chance_104 : decode cX5_chance 104 = .ok (.i2l, 1) := by decide +kernel
theorem dX5_chance_105 : decode cX5_chance 105 = .ok (.lreturn, 1) := by decide +kernel
theorem dX5_image_0 : decode cX5_image 0 = .ok (.aload_n 0, 1) := by decide +kernel
theorem dX5_image_1 : decode cX5_image 1 = .ok (.getfield 41, 3) := by decide +kernel
theorem dX5_image_4 : decode cX5_image 4 = .ok (.aload_n 0, 1) := by decide +kernel
theorem dX5_image_5 : decode cX5_image 5 = .ok (.getfield 34, 3) := by decide +kernel
theorem dX5_image_8 : decode cX5_image 8 = .ok (.invokevirtual 151, 3) := by decide +kernel
theorem dX5_image_11 : decode cX5_image 11 = .ok (.aload_n 0, 1) := by decide +kernel
theorem dX5_image_12 : decode cX5_image 12 = .ok (.iconst 1, 1) := by decide +kernel
theorem dX5_image_13 : decode cX5_image 13 = .ok (.putfield 225, 3) := by decide +kernel
theorem dX5_image_16 : decode cX5_image 16 = .ok (.aload_n 0, 1) := by decide +kernel
theorem dX5_image_17 : decode cX5_image 17 = .ok (.getfield 34, 3) := by decide +kernel
theorem dX5_image_20 : decode cX5_image 20 = .ok (.getfield 191, 3) := by decide +kernel
theorem dX5_image_23 : decode cX5_image 23 = .ok (.ireturn, 1) := by decide +kernel
theorem dX5_back_0 : decode cX5_back 0 = .ok (.aload_n 0, 1) := by decide +kernel
theorem dX5_back_1 : decode cX5_back 1 = .ok (.getfield 225, 3) := by decide +kernel
theorem dX5_back_4 : decode cX5_back 4 = .ok (.ifCond .ne 6, 3) := by decide +kernel
theorem dX5_back_7 : decode cX5_back 7 = .ok (.bipush (-3), 2) := by decide +kernel
theorem dX5_back_9 : decode cX5_back 9 = .ok (.ireturn, 1) := by decide +kernel
theorem dX5_back_10 : decode cX5_back 10 = .ok (.aload_n 0, 1) := by decide +kernel
theorem dX5_back_11 : decode cX5_back 11 = .ok (.getfield 34, 3) := by decide +kernel
theorem dX5_back_14 : decode cX5_back 14 = .ok (.aload_n 0, 1) := by decide +kernel
theorem dX5_back_15 : decode cX5_back 15 = .ok (.getfield 41, 3) := by decide +kernel
theorem dX5_back_18 : decode cX5_back 18 = .ok (.invokevirtual 151, 3) := by decide +kernel
theorem dX5_back_21 : decode cX5_back 21 = .ok (.aload_n 0, 1) := by decide +kernel
theorem dX5_back_22 : decode cX5_back 22 = .ok (.getfield 34, 3) := by decide +kernel
theorem dX5_back_25 : decode cX5_back 25 = .ok (.getfield 191, 3) := by decide +kernel
theorem dX5_back_28 : decode cX5_back 28 = .ok (.ireturn, 1) := by decide +kernel
theorem dX5_count_0 : decode cX5_count 0 = .ok (.iload_n 1, 1) := by decide +kernel
theorem dX5_count_1 : decode cX5_count 1 = .ok (.tableswitch 84 0 5 #[39, 47, 55, 63, 68, 76], 39) := by decide +kernel
theorem dX5_count_40 : decode cX5_count 40 = .ok (.aload_n 0, 1) := by decide +kernel
theorem dX5_count_41 : decode cX5_count 41 = .ok (.getfield 34, 3) := by decide +kernel
theorem dX5_count_44 : decode cX5_count 44 = .ok (.getfield 191, 3) := by decide +kernel
theorem dX5_count_47 : decode cX5_count 47 = .ok (.ireturn, 1) := by decide +kernel
theorem dX5_count_48 : decode cX5_count 48 = .ok (.aload_n 0, 1) := by decide +kernel
theorem dX5_count_49 : decode cX5_count 49 = .ok (.getfield 34, 3) := by decide +kernel
theorem dX5_count_52 : decode cX5_count 52 = .ok (.getfield 82, 3) := by decide +kernel
theorem dX5_count_55 : decode cX5_count 55 = .ok (.ireturn, 1) := by decide +kernel
theorem dX5_count_56 : decode cX5_count 56 = .ok (.aload_n 0, 1) := by decide +kernel
theorem dX5_count_57 : decode cX5_count 57 = .ok (.getfield 34, 3) := by decide +kernel
theorem dX5_count_60 : decode cX5_count 60 = .ok (.invokevirtual 144, 3) := by decide +kernel
theorem dX5_count_63 : decode cX5_count 63 = .ok (.ireturn, 1) := by decide +kernel
theorem dX5_count_64 : decode cX5_count 64 = .ok (.aload_n 0, 1) := by decide +kernel
theorem dX5_count_65 : decode cX5_count 65 = .ok (.getfield 125, 3) := by decide +kernel
theorem dX5_count_68 : decode cX5_count 68 = .ok (.ireturn, 1) := by decide +kernel
theorem dX5_count_69 : decode cX5_count 69 = .ok (.aload_n 0, 1) := by decide +kernel
theorem dX5_count_70 : decode cX5_count 70 = .ok (.getfield 18, 3) := by decide +kernel
theorem dX5_count_73 : decode cX5_count 73 = .ok (.getfield 131, 3) := by decide +kernel
theorem dX5_count_76 : decode cX5_count 76 = .ok (.ireturn, 1) := by decide +kernel
theorem dX5_count_77 : decode cX5_count 77 = .ok (.aload_n 0, 1) := by decide +kernel
theorem dX5_count_78 : decode cX5_count 78 = .ok (.getfield 34, 3) := by decide +kernel
theorem dX5_count_81 : decode cX5_count 81 = .ok (.getfield 138, 3) := by decide +kernel
theorem dX5_count_84 : decode cX5_count 84 = .ok (.ireturn, 1) := by decide +kernel
theorem dX5_count_85 : decode cX5_count 85 = .ok (.bipush (-2), 2) := by decide +kernel
theorem dX5_count_87 : decode cX5_count 87 = .ok (.ireturn, 1) := by decide +kernel
theorem dX5_choices_0 : decode cX5_choices 0 = .ok (.iload_n 1, 1) := by decide +kernel
theorem dX5_choices_1 : decode cX5_choices 1 = .ok (.tableswitch 53 1 6 #[39, 42, 42, 45, 45, 48], 39) := by decide +kernel
theorem dX5_choices_40 : decode cX5_choices 40 = .ok (.bipush 6, 2) := by decide +kernel
theorem dX5_choices_42 : decode cX5_choices 42 = .ok (.ireturn, 1) := by decide +kernel
theorem dX5_choices_43 : decode cX5_choices 43 = .ok (.bipush 10, 2) := by decide +kernel
theorem dX5_choices_45 : decode cX5_choices 45 = .ok (.ireturn, 1) := by decide +kernel
theorem dX5_choices_46 : decode cX5_choices 46 = .ok (.bipush 100, 2) := by decide +kernel
theorem dX5_choices_48 : decode cX5_choices 48 = .ok (.ireturn, 1) := by decide +kernel
theorem dX5_choices_49 : decode cX5_choices 49 = .ok (.aload_n 0, 1) := by decide +kernel
theorem dX5_choices_50 : decode cX5_choices 50 = .ok (.getfield 125, 3) := by decide +kernel
theorem dX5_choices_53 : decode cX5_choices 53 = .ok (.ireturn, 1) := by decide +kernel
theorem dX5_choices_54 : decode cX5_choices 54 = .ok (.aload_n 0, 1) := by decide +kernel
theorem dX5_choices_55 : decode cX5_choices 55 = .ok (.getfield 34, 3) := by decide +kernel
theorem dX5_choices_58 : decode cX5_choices 58 = .ok (.getfield 191, 3) := by decide +kernel
theorem dX5_choices_61 : decode cX5_choices 61 = .ok (.ireturn, 1) := by decide +kernel
theorem dX5_firstOtherwise_0 : decode cX5_firstOtherwise 0 = .ok (.iload_n 3, 1) := by decide +kernel
theorem dX5_firstOtherwise_1 : decode cX5_firstOtherwise 1 = .ok (.bipush 7, 2) := by decide +kernel
theorem dX5_firstOtherwise_3 : decode cX5_firstOtherwise 3 = .ok (.if_icmp .ne 8, 3) := by decide +kernel
theorem dX5_firstOtherwise_6 : decode cX5_firstOtherwise 6 = .ok (.iload 4, 2) := by decide +kernel
theorem dX5_firstOtherwise_8 : decode cX5_firstOtherwise 8 = .ok (.goto 4, 3) := by decide +kernel
theorem dX5_firstOtherwise_11 : decode cX5_firstOtherwise 11 = .ok (.iload_n 2, 1) := by decide +kernel
theorem dX5_firstOtherwise_12 : decode cX5_firstOtherwise 12 = .ok (.istore 5, 2) := by decide +kernel
theorem dX5_firstOtherwise_14 : decode cX5_firstOtherwise 14 = .ok (.aload_n 0, 1) := by decide +kernel
theorem dX5_firstOtherwise_15 : decode cX5_firstOtherwise 15 = .ok (.getfield 38, 3) := by decide +kernel
theorem dX5_firstOtherwise_18 : decode cX5_firstOtherwise 18 = .ok (.aload_n 0, 1) := by decide +kernel
theorem dX5_firstOtherwise_19 : decode cX5_firstOtherwise 19 = .ok (.getfield 34, 3) := by decide +kernel
theorem dX5_firstOtherwise_22 : decode cX5_firstOtherwise 22 = .ok (.invokevirtual 151, 3) := by decide +kernel
theorem dX5_firstOtherwise_25 : decode cX5_firstOtherwise 25 = .ok (.iload_n 3, 1) := by decide +kernel
theorem dX5_firstOtherwise_26 : decode cX5_firstOtherwise 26 = .ok (.tableswitch 104 1 6 #[38, 52, 66, 78, 78, 92], 38) := by decide +kernel
theorem dX5_firstOtherwise_64 : decode cX5_firstOtherwise 64 = .ok (.aload_n 0, 1) := by decide +kernel
theorem dX5_firstOtherwise_65 : decode cX5_firstOtherwise 65 = .ok (.getfield 38, 3) := by decide +kernel
theorem dX5_firstOtherwise_68 : decode cX5_firstOtherwise 68 = .ok (.getfield 110, 3) := by decide +kernel
theorem dX5_firstOtherwise_71 : decode cX5_firstOtherwise 71 = .ok (.iload_n 2, 1) := by decide +kernel
theorem dX5_firstOtherwise_72 : decode cX5_firstOtherwise 72 = .ok (.iload 4, 2) := by decide +kernel
theorem dX5_firstOtherwise_74 : decode cX5_firstOtherwise 74 = .ok (.iastore, 1) := by decide +kernel
theorem dX5_firstOtherwise_75 : decode cX5_firstOtherwise 75 = .ok (.goto 55, 3) := by decide +kernel
theorem dX5_firstOtherwise_78 : decode cX5_firstOtherwise 78 = .ok (.aload_n 0, 1) := by decide +kernel
theorem dX5_firstOtherwise_79 : decode cX5_firstOtherwise 79 = .ok (.getfield 38, 3) := by decide +kernel
theorem dX5_firstOtherwise_82 : decode cX5_firstOtherwise 82 = .ok (.getfield 89, 3) := by decide +kernel
theorem dX5_firstOtherwise_85 : decode cX5_firstOtherwise 85 = .ok (.iload_n 2, 1) := by decide +kernel
theorem dX5_firstOtherwise_86 : decode cX5_firstOtherwise 86 = .ok (.iload 4, 2) := by decide +kernel
theorem dX5_firstOtherwise_88 : decode cX5_firstOtherwise 88 = .ok (.iastore, 1) := by decide +kernel
theorem dX5_firstOtherwise_89 : decode cX5_firstOtherwise 89 = .ok (.goto 41, 3) := by decide +kernel
theorem dX5_firstOtherwise_92 : decode cX5_firstOtherwise 92 = .ok (.aload_n 0, 1) := by decide +kernel
theorem dX5_firstOtherwise_93 : decode cX5_firstOtherwise 93 = .ok (.getfield 38, 3) := by decide +kernel
theorem dX5_firstOtherwise_96 : decode cX5_firstOtherwise 96 = .ok (.iload 4, 2) := by decide +kernel
theorem dX5_firstOtherwise_98 : decode cX5_firstOtherwise 98 = .ok (.putfield 86, 3) := by decide +kernel
theorem dX5_firstOtherwise_101 : decode cX5_firstOtherwise 101 = .ok (.goto 29, 3) := by decide +kernel
theorem dX5_firstOtherwise_104 : decode cX5_firstOtherwise 104 = .ok (.aload_n 0, 1) := by decide +kernel
theorem dX5_firstOtherwise_105 : decode cX5_firstOtherwise 105 = .ok (.getfield 38, 3) := by decide +kernel
theorem dX5_firstOtherwise_108 : decode cX5_firstOtherwise 108 = .ok (.getfield 93, 3) := by decide +kernel
theorem dX5_firstOtherwise_111 : decode cX5_firstOtherwise 111 = .ok (.iload_n 2, 1) := by decide +kernel
theorem dX5_firstOtherwise_112 : decode cX5_firstOtherwise 112 = .ok (.iload 4, 2) := by decide +kernel
theorem dX5_firstOtherwise_114 : decode cX5_firstOtherwise 114 = .ok (.iastore, 1) := by decide +kernel
theorem dX5_firstOtherwise_115 : decode cX5_firstOtherwise 115 = .ok (.goto 15, 3) := by decide +kernel
theorem dX5_firstOtherwise_118 : decode cX5_firstOtherwise 118 = .ok (.aload_n 0, 1) := by decide +kernel
theorem dX5_firstOtherwise_119 : decode cX5_firstOtherwise 119 = .ok (.getfield 38, 3) := by decide +kernel
theorem dX5_firstOtherwise_122 : decode cX5_firstOtherwise 122 = .ok (.iload 4, 2) := by decide +kernel
theorem dX5_firstOtherwise_124 : decode cX5_firstOtherwise 124 = .ok (.putfield 138, 3) := by decide +kernel
theorem dX5_firstOtherwise_127 : decode cX5_firstOtherwise 127 = .ok (.goto 3, 3) := by decide +kernel
theorem dX5_firstOtherwise_130 : decode cX5_firstOtherwise 130 = .ok (.iconst 0, 1) := by decide +kernel
theorem dX5_firstOtherwise_131 : decode cX5_firstOtherwise 131 = .ok (.istore 6, 2) := by decide +kernel
theorem dX5_firstOtherwise_133 : decode cX5_firstOtherwise 133 = .ok (.iload 6, 2) := by decide +kernel
theorem dX5_firstOtherwise_135 : decode cX5_firstOtherwise 135 = .ok (.aload_n 1, 1) := by decide +kernel
theorem dX5_firstOtherwise_136 : decode cX5_firstOtherwise 136 = .ok (.getfield 205, 3) := by decide +kernel
theorem dX5_firstOtherwise_139 : decode cX5_firstOtherwise 139 = .ok (.if_icmp .ge 37, 3) := by decide +kernel
theorem dX5_firstOtherwise_142 : decode cX5_firstOtherwise 142 = .ok (.aload_n 0, 1) := by decide +kernel
theorem dX5_firstOtherwise_143 : decode cX5_firstOtherwise 143 = .ok (.getfield 38, 3) := by decide +kernel
theorem dX5_firstOtherwise_146 : decode cX5_firstOtherwise 146 = .ok (.iload 5, 2) := by decide +kernel
theorem dX5_firstOtherwise_148 : decode cX5_firstOtherwise 148 = .ok (.invokevirtual 122, 3) := by decide +kernel
theorem dX5_firstOtherwise_151 : decode cX5_firstOtherwise 151 = .ok (.aload_n 1, 1) := by decide +kernel
theorem dX5_firstOtherwise_152 : decode cX5_firstOtherwise 152 = .ok (.iload 6, 2) := by decide +kernel
theorem dX5_firstOtherwise_154 : decode cX5_firstOtherwise 154 = .ok (.invokevirtual 229, 3) := by decide +kernel
theorem dX5_firstOtherwise_157 : decode cX5_firstOtherwise 157 = .ok (.if_icmp .eq 6, 3) := by decide +kernel
theorem dX5_firstOtherwise_160 : decode cX5_firstOtherwise 160 = .ok (.iload 6, 2) := by decide +kernel
theorem dX5_firstOtherwise_162 : decode cX5_firstOtherwise 162 = .ok (.ireturn, 1) := by decide +kernel
theorem dX5_firstOtherwise_163 : decode cX5_firstOtherwise 163 = .ok (.aload_n 0, 1) := by decide +kernel
theorem dX5_firstOtherwise_164 : decode cX5_firstOtherwise 164 = .ok (.getfield 38, 3) := by decide +kernel
theorem dX5_firstOtherwise_167 : decode cX5_firstOtherwise 167 = .ok (.invokevirtual 141, 3) := by decide +kernel
theorem dX5_firstOtherwise_170 : decode cX5_firstOtherwise 170 = .ok (.iinc 6 1, 3) := by decide +kernel
theorem dX5_firstOtherwise_173 : decode cX5_firstOtherwise 173 = .ok (.goto (-40), 3) := by decide +kernel
theorem dX5_firstOtherwise_176 : decode cX5_firstOtherwise 176 = .ok (.iconst (-1), 1) := by decide +kernel
theorem dX5_firstOtherwise_177 : decode cX5_firstOtherwise 177 = .ok (.ireturn, 1) := by decide +kernel
theorem dX5_clogsBySeed_0 : decode cX5_clogsBySeed 0 = .ok (.iload_n 1, 1) := by decide +kernel
theorem dX5_clogsBySeed_1 : decode cX5_clogsBySeed 1 = .ok (.istore_n 3, 1) := by decide +kernel
theorem dX5_clogsBySeed_2 : decode cX5_clogsBySeed 2 = .ok (.iconst 0, 1) := by decide +kernel
theorem dX5_clogsBySeed_3 : decode cX5_clogsBySeed 3 = .ok (.istore 4, 2) := by decide +kernel
theorem dX5_clogsBySeed_5 : decode cX5_clogsBySeed 5 = .ok (.aload_n 0, 1) := by decide +kernel
theorem dX5_clogsBySeed_6 : decode cX5_clogsBySeed 6 = .ok (.getfield 38, 3) := by decide +kernel
theorem dX5_clogsBySeed_9 : decode cX5_clogsBySeed 9 = .ok (.aload_n 0, 1) := by decide +kernel
theorem dX5_clogsBySeed_10 : decode cX5_clogsBySeed 10 = .ok (.getfield 34, 3) := by decide +kernel
theorem dX5_clogsBySeed_13 : decode cX5_clogsBySeed 13 = .ok (.invokevirtual 151, 3) := by decide +kernel
theorem dX5_clogsBySeed_16 : decode cX5_clogsBySeed 16 = .ok (.iconst 0, 1) := by decide +kernel
theorem dX5_clogsBySeed_17 : decode cX5_clogsBySeed 17 = .ok (.istore 5, 2) := by decide +kernel
theorem dX5_clogsBySeed_19 : decode cX5_clogsBySeed 19 = .ok (.iload 5, 2) := by decide +kernel
theorem dX5_clogsBySeed_21 : decode cX5_clogsBySeed 21 = .ok (.iload_n 2, 1) := by decide +kernel
theorem dX5_clogsBySeed_22 : decode cX5_clogsBySeed 22 = .ok (.if_icmp .ge 54, 3) := by decide +kernel
theorem dX5_clogsBySeed_25 : decode cX5_clogsBySeed 25 = .ok (.iload_n 3, 1) := by decide +kernel
theorem dX5_clogsBySeed_26 : decode cX5_clogsBySeed 26 = .ok (.ldc 232, 2) := by decide +kernel
theorem dX5_clogsBySeed_28 : decode cX5_clogsBySeed 28 = .ok (.imul, 1) := by decide +kernel
theorem dX5_clogsBySeed_29 : decode cX5_clogsBySeed 29 = .ok (.sipush 12345, 3) := by decide +kernel
theorem dX5_clogsBySeed_32 : decode cX5_clogsBySeed 32 = .ok (.iadd, 1) := by decide +kernel
theorem dX5_clogsBySeed_33 : decode cX5_clogsBySeed 33 = .ok (.istore_n 3, 1) := by decide +kernel
theorem dX5_clogsBySeed_34 : decode cX5_clogsBySeed 34 = .ok (.aload_n 0, 1) := by decide +kernel
theorem dX5_clogsBySeed_35 : decode cX5_clogsBySeed 35 = .ok (.getfield 38, 3) := by decide +kernel
theorem dX5_clogsBySeed_38 : decode cX5_clogsBySeed 38 = .ok (.iload_n 3, 1) := by decide +kernel
theorem dX5_clogsBySeed_39 : decode cX5_clogsBySeed 39 = .ok (.bipush 9, 2) := by decide +kernel
theorem dX5_clogsBySeed_41 : decode cX5_clogsBySeed 41 = .ok (.iushr, 1) := by decide +kernel
theorem dX5_clogsBySeed_42 : decode cX5_clogsBySeed 42 = .ok (.bipush 10, 2) := by decide +kernel
theorem dX5_clogsBySeed_44 : decode cX5_clogsBySeed 44 = .ok (.irem, 1) := by decide +kernel
theorem dX5_clogsBySeed_45 : decode cX5_clogsBySeed 45 = .ok (.putfield 86, 3) := by decide +kernel
theorem dX5_clogsBySeed_48 : decode cX5_clogsBySeed 48 = .ok (.aload_n 0, 1) := by decide +kernel
theorem dX5_clogsBySeed_49 : decode cX5_clogsBySeed 49 = .ok (.getfield 38, 3) := by decide +kernel
theorem dX5_clogsBySeed_52 : decode cX5_clogsBySeed 52 = .ok (.invokevirtual 141, 3) := by decide +kernel
theorem dX5_clogsBySeed_55 : decode cX5_clogsBySeed 55 = .ok (.iload 4, 2) := by decide +kernel
theorem dX5_clogsBySeed_57 : decode cX5_clogsBySeed 57 = .ok (.aload_n 0, 1) := by decide +kernel
theorem dX5_clogsBySeed_58 : decode cX5_clogsBySeed 58 = .ok (.getfield 38, 3) := by decide +kernel
theorem dX5_clogsBySeed_61 : decode cX5_clogsBySeed 61 = .ok (.invokevirtual 161, 3) := by decide +kernel
theorem dX5_clogsBySeed_64 : decode cX5_clogsBySeed 64 = .ok (.invokestatic 233, 3) := by decide +kernel
theorem dX5_clogsBySeed_67 : decode cX5_clogsBySeed 67 = .ok (.iadd, 1) := by decide +kernel
theorem dX5_clogsBySeed_68 : decode cX5_clogsBySeed 68 = .ok (.istore 4, 2) := by decide +kernel
theorem dX5_clogsBySeed_70 : decode cX5_clogsBySeed 70 = .ok (.iinc 5 1, 3) := by decide +kernel
theorem dX5_clogsBySeed_73 : decode cX5_clogsBySeed 73 = .ok (.goto (-54), 3) := by decide +kernel
theorem dX5_clogsBySeed_76 : decode cX5_clogsBySeed 76 = .ok (.iload 4, 2) := by decide +kernel
theorem dX5_clogsBySeed_78 : decode cX5_clogsBySeed 78 = .ok (.ireturn, 1) := by decide +kernel
theorem dX5_greatestShared_0 : decode cX5_greatestShared 0 = .ok (.iconst 1, 1) := by decide +kernel
theorem dX5_greatestShared_1 : decode cX5_greatestShared 1 = .ok (.istore_n 2, 1) := by decide +kernel
theorem dX5_greatestShared_2 : decode cX5_greatestShared 2 = .ok (.iconst 2, 1) := by decide +kernel
theorem dX5_greatestShared_3 : decode cX5_greatestShared 3 = .ok (.istore_n 3, 1) := by decide +kernel
theorem dX5_greatestShared_4 : decode cX5_greatestShared 4 = .ok (.iload_n 3, 1) := by decide +kernel
theorem dX5_greatestShared_5 : decode cX5_greatestShared 5 = .ok (.iload_n 1, 1) := by decide +kernel
theorem dX5_greatestShared_6 : decode cX5_greatestShared 6 = .ok (.if_icmp .gt 23, 3) := by decide +kernel
theorem dX5_greatestShared_9 : decode cX5_greatestShared 9 = .ok (.iload_n 0, 1) := by decide +kernel
theorem dX5_greatestShared_10 : decode cX5_greatestShared 10 = .ok (.iload_n 3, 1) := by decide +kernel
theorem dX5_greatestShared_11 : decode cX5_greatestShared 11 = .ok (.irem, 1) := by decide +kernel
theorem dX5_greatestShared_12 : decode cX5_greatestShared 12 = .ok (.ifCond .ne 11, 3) := by decide +kernel
theorem dX5_greatestShared_15 : decode cX5_greatestShared 15 = .ok (.iload_n 1, 1) := by decide +kernel
theorem dX5_greatestShared_16 : decode cX5_greatestShared 16 = .ok (.iload_n 3, 1) := by decide +kernel
theorem dX5_greatestShared_17 : decode cX5_greatestShared 17 = .ok (.irem, 1) := by decide +kernel
theorem dX5_greatestShared_18 : decode cX5_greatestShared 18 = .ok (.ifCond .ne 5, 3) := by decide +kernel
theorem dX5_greatestShared_21 : decode cX5_greatestShared 21 = .ok (.iload_n 3, 1) := by decide +kernel
theorem dX5_greatestShared_22 : decode cX5_greatestShared 22 = .ok (.istore_n 2, 1) := by decide +kernel
theorem dX5_greatestShared_23 : decode cX5_greatestShared 23 = .ok (.iinc 3 1, 3) := by decide +kernel
theorem dX5_greatestShared_26 : decode cX5_greatestShared 26 = .ok (.goto (-22), 3) := by decide +kernel
theorem dX5_greatestShared_29 : decode cX5_greatestShared 29 = .ok (.iload_n 2, 1) := by decide +kernel
theorem dX5_greatestShared_30 : decode cX5_greatestShared 30 = .ok (.ireturn, 1) := by decide +kernel
theorem dX5_sheet_0 : decode cX5_sheet 0 = .ok (.iload_n 1, 1) := by decide +kernel
theorem dX5_sheet_1 : decode cX5_sheet 1 = .ok (.iconst 0, 1) := by decide +kernel
theorem dX5_sheet_2 : decode cX5_sheet 2 = .ok (.iconst 3, 1) := by decide +kernel
theorem dX5_sheet_3 : decode cX5_sheet 3 = .ok (.invokestatic 78, 3) := by decide +kernel
theorem dX5_sheet_6 : decode cX5_sheet 6 = .ok (.ifCond .eq 12, 3) := by decide +kernel
theorem dX5_sheet_9 : decode cX5_sheet 9 = .ok (.iload_n 2, 1) := by decide +kernel
theorem dX5_sheet_10 : decode cX5_sheet 10 = .ok (.iconst (-1), 1) := by decide +kernel
theorem dX5_sheet_11 : decode cX5_sheet 11 = .ok (.iconst 2, 1) := by decide +kernel
theorem dX5_sheet_12 : decode cX5_sheet 12 = .ok (.invokestatic 78, 3) := by decide +kernel
theorem dX5_sheet_15 : decode cX5_sheet 15 = .ok (.ifCond .ne 6, 3) := by decide +kernel
theorem dX5_sheet_18 : decode cX5_sheet 18 = .ok (.bipush (-2), 2) := by decide +kernel
theorem dX5_sheet_20 : decode cX5_sheet 20 = .ok (.ireturn, 1) := by decide +kernel
theorem dX5_sheet_21 : decode cX5_sheet 21 = .ok (.iload_n 2, 1) := by decide +kernel
theorem dX5_sheet_22 : decode cX5_sheet 22 = .ok (.iconst (-1), 1) := by decide +kernel
theorem dX5_sheet_23 : decode cX5_sheet 23 = .ok (.if_icmp .ne 16, 3) := by decide +kernel
theorem dX5_sheet_26 : decode cX5_sheet 26 = .ok (.aload_n 0, 1) := by decide +kernel
theorem dX5_sheet_27 : decode cX5_sheet 27 = .ok (.getfield 46, 3) := by decide +kernel
theorem dX5_sheet_30 : decode cX5_sheet 30 = .ok (.iload_n 1, 1) := by decide +kernel
theorem dX5_sheet_31 : decode cX5_sheet 31 = .ok (.aaload, 1) := by decide +kernel
theorem dX5_sheet_32 : decode cX5_sheet 32 = .ok (.iconst (-1), 1) := by decide +kernel
theorem dX5_sheet_33 : decode cX5_sheet 33 = .ok (.iconst 0, 1) := by decide +kernel
theorem dX5_sheet_34 : decode cX5_sheet 34 = .ok (.invokevirtual 213, 3) := by decide +kernel
theorem dX5_sheet_37 : decode cX5_sheet 37 = .ok (.iconst 1, 1) := by decide +kernel
theorem dX5_sheet_38 : decode cX5_sheet 38 = .ok (.ireturn, 1) := by decide +kernel
theorem dX5_sheet_39 : decode cX5_sheet 39 = .ok (.iload_n 3, 1) := by decide +kernel
theorem dX5_sheet_40 : decode cX5_sheet 40 = .ok (.bipush 40, 2) := by decide +kernel
theorem dX5_sheet_42 : decode cX5_sheet 42 = .ok (.if_icmp .le 6, 3) := by decide +kernel
theorem dX5_sheet_45 : decode cX5_sheet 45 = .ok (.bipush (-2), 2) := by decide +kernel
theorem dX5_sheet_47 : decode cX5_sheet 47 = .ok (.ireturn, 1) := by decide +kernel
theorem dX5_sheet_48 : decode cX5_sheet 48 = .ok (.iload_n 3, 1) := by decide +kernel
theorem dX5_sheet_49 : decode cX5_sheet 49 = .ok (.ifCond .ge 6, 3) := by decide +kernel
theorem dX5_sheet_52 : decode cX5_sheet 52 = .ok (.bipush (-14), 2) := by decide +kernel
theorem dX5_sheet_54 : decode cX5_sheet 54 = .ok (.ireturn, 1) := by decide +kernel
theorem dX5_sheet_55 : decode cX5_sheet 55 = .ok (.aload_n 0, 1) := by decide +kernel
theorem dX5_sheet_56 : decode cX5_sheet 56 = .ok (.getfield 46, 3) := by decide +kernel
theorem dX5_sheet_59 : decode cX5_sheet 59 = .ok (.iload_n 1, 1) := by decide +kernel
theorem dX5_sheet_60 : decode cX5_sheet 60 = .ok (.aaload, 1) := by decide +kernel
theorem dX5_sheet_61 : decode cX5_sheet 61 = .ok (.iload_n 2, 1) := by decide +kernel
theorem dX5_sheet_62 : decode cX5_sheet 62 = .ok (.iload_n 3, 1) := by decide +kernel
theorem dX5_sheet_63 : decode cX5_sheet 63 = .ok (.invokevirtual 213, 3) := by decide +kernel
theorem dX5_sheet_66 : decode cX5_sheet 66 = .ok (.iconst 1, 1) := by decide +kernel
theorem dX5_sheet_67 : decode cX5_sheet 67 = .ok (.ireturn, 1) := by decide +kernel
theorem dX5_cell_0 : decode cX5_cell 0 = .ok (.iload_n 1, 1) := by decide +kernel
theorem dX5_cell_1 : decode cX5_cell 1 = .ok (.iconst 0, 1) := by decide +kernel
theorem dX5_cell_2 : decode cX5_cell 2 = .ok (.iconst 3, 1) := by decide +kernel
theorem dX5_cell_3 : decode cX5_cell 3 = .ok (.invokestatic 78, 3) := by decide +kernel
theorem dX5_cell_6 : decode cX5_cell 6 = .ok (.ifCond .ne 6, 3) := by decide +kernel
theorem dX5_cell_9 : decode cX5_cell 9 = .ok (.bipush (-2), 2) := by decide +kernel
theorem dX5_cell_11 : decode cX5_cell 11 = .ok (.ireturn, 1) := by decide +kernel
theorem dX5_cell_12 : decode cX5_cell 12 = .ok (.aload_n 0, 1) := by decide +kernel
theorem dX5_cell_13 : decode cX5_cell 13 = .ok (.getfield 46, 3) := by decide +kernel
theorem dX5_cell_16 : decode cX5_cell 16 = .ok (.iload_n 1, 1) := by decide +kernel
theorem dX5_cell_17 : decode cX5_cell 17 = .ok (.aaload, 1) := by decide +kernel
theorem dX5_cell_18 : decode cX5_cell 18 = .ok (.astore 4, 2) := by decide +kernel
theorem dX5_cell_20 : decode cX5_cell 20 = .ok (.aload 4, 2) := by decide +kernel
theorem dX5_cell_22 : decode cX5_cell 22 = .ok (.getfield 202, 3) := by decide +kernel
theorem dX5_cell_25 : decode cX5_cell 25 = .ok (.iconst (-1), 1) := by decide +kernel
theorem dX5_cell_26 : decode cX5_cell 26 = .ok (.if_icmp .ne 6, 3) := by decide +kernel
theorem dX5_cell_29 : decode cX5_cell 29 = .ok (.bipush (-11), 2) := by decide +kernel
theorem dX5_cell_31 : decode cX5_cell 31 = .ok (.ireturn, 1) := by decide +kernel
theorem dX5_cell_32 : decode cX5_cell 32 = .ok (.iload_n 2, 1) := by decide +kernel
theorem dX5_cell_33 : decode cX5_cell 33 = .ok (.iconst 0, 1) := by decide +kernel
theorem dX5_cell_34 : decode cX5_cell 34 = .ok (.aload 4, 2) := by decide +kernel
theorem dX5_cell_36 : decode cX5_cell 36 = .ok (.getfield 205, 3) := by decide +kernel
theorem dX5_cell_39 : decode cX5_cell 39 = .ok (.iconst 1, 1) := by decide +kernel
theorem dX5_cell_40 : decode cX5_cell 40 = .ok (.isub, 1) := by decide +kernel
theorem dX5_cell_41 : decode cX5_cell 41 = .ok (.invokestatic 78, 3) := by decide +kernel
theorem dX5_cell_44 : decode cX5_cell 44 = .ok (.ifCond .ne 6, 3) := by decide +kernel
theorem dX5_cell_47 : decode cX5_cell 47 = .ok (.bipush (-12), 2) := by decide +kernel
theorem dX5_cell_49 : decode cX5_cell 49 = .ok (.ireturn, 1) := by decide +kernel
theorem dX5_cell_50 : decode cX5_cell 50 = .ok (.aload 4, 2) := by decide +kernel
theorem dX5_cell_52 : decode cX5_cell 52 = .ok (.iload_n 2, 1) := by decide +kernel
theorem dX5_cell_53 : decode cX5_cell 53 = .ok (.iload_n 3, 1) := by decide +kernel
theorem dX5_cell_54 : decode cX5_cell 54 = .ok (.invokevirtual 216, 3) := by decide +kernel
theorem dX5_cell_57 : decode cX5_cell 57 = .ok (.iconst 1, 1) := by decide +kernel
theorem dX5_cell_58 : decode cX5_cell 58 = .ok (.ireturn, 1) := by decide +kernel
theorem dX5_copy_0 : decode cX5_copy 0 = .ok (.iload_n 1, 1) := by decide +kernel
theorem dX5_copy_1 : decode cX5_copy 1 = .ok (.iconst 0, 1) := by decide +kernel
theorem dX5_copy_2 : decode cX5_copy 2 = .ok (.iconst 3, 1) := by decide +kernel
theorem dX5_copy_3 : decode cX5_copy 3 = .ok (.invokestatic 78, 3) := by decide +kernel
theorem dX5_copy_6 : decode cX5_copy 6 = .ok (.ifCond .eq 12, 3) := by decide +kernel
theorem dX5_copy_9 : decode cX5_copy 9 = .ok (.iload_n 3, 1) := by decide +kernel
theorem dX5_copy_10 : decode cX5_copy 10 = .ok (.iconst 0, 1) := by decide +kernel
theorem dX5_copy_11 : decode cX5_copy 11 = .ok (.iconst 3, 1) := by decide +kernel
theorem dX5_copy_12 : decode cX5_copy 12 = .ok (.invokestatic 78, 3) := by decide +kernel
theorem dX5_copy_15 : decode cX5_copy 15 = .ok (.ifCond .ne 6, 3) := by decide +kernel
theorem dX5_copy_18 : decode cX5_copy 18 = .ok (.bipush (-2), 2) := by decide +kernel
theorem dX5_copy_20 : decode cX5_copy 20 = .ok (.ireturn, 1) := by decide +kernel
theorem dX5_copy_21 : decode cX5_copy 21 = .ok (.aload_n 0, 1) := by decide +kernel
theorem dX5_copy_22 : decode cX5_copy 22 = .ok (.getfield 46, 3) := by decide +kernel
theorem dX5_copy_25 : decode cX5_copy 25 = .ok (.iload_n 1, 1) := by decide +kernel
theorem dX5_copy_26 : decode cX5_copy 26 = .ok (.aaload, 1) := by decide +kernel
theorem dX5_copy_27 : decode cX5_copy 27 = .ok (.astore 6, 2) := by decide +kernel
theorem dX5_copy_29 : decode cX5_copy 29 = .ok (.aload_n 0, 1) := by decide +kernel
theorem dX5_copy_30 : decode cX5_copy 30 = .ok (.getfield 46, 3) := by decide +kernel
theorem dX5_copy_33 : decode cX5_copy 33 = .ok (.iload_n 3, 1) := by decide +kernel
theorem dX5_copy_34 : decode cX5_copy 34 = .ok (.aaload, 1) := by decide +kernel
theorem dX5_copy_35 : decode cX5_copy 35 = .ok (.astore 7, 2) := by decide +kernel
theorem dX5_copy_37 : decode cX5_copy 37 = .ok (.aload 6, 2) := by decide +kernel
theorem dX5_copy_39 : decode cX5_copy 39 = .ok (.getfield 202, 3) := by decide +kernel
theorem dX5_copy_42 : decode cX5_copy 42 = .ok (.iconst (-1), 1) := by decide +kernel
theorem dX5_copy_43 : decode cX5_copy 43 = .ok (.if_icmp .eq 12, 3) := by decide +kernel
theorem dX5_copy_46 : decode cX5_copy 46 = .ok (.aload 7, 2) := by decide +kernel
theorem dX5_copy_48 : decode cX5_copy 48 = .ok (.getfield 202, 3) := by decide +kernel
theorem dX5_copy_51 : decode cX5_copy 51 = .ok (.iconst (-1), 1) := by decide +kernel
theorem dX5_copy_52 : decode cX5_copy 52 = .ok (.if_icmp .ne 6, 3) := by decide +kernel
theorem dX5_copy_55 : decode cX5_copy 55 = .ok (.bipush (-11), 2) := by decide +kernel
theorem dX5_copy_57 : decode cX5_copy 57 = .ok (.ireturn, 1) := by decide +kernel
theorem dX5_copy_58 : decode cX5_copy 58 = .ok (.aload 6, 2) := by decide +kernel
theorem dX5_copy_60 : decode cX5_copy 60 = .ok (.getfield 202, 3) := by decide +kernel
theorem dX5_copy_63 : decode cX5_copy 63 = .ok (.aload 7, 2) := by decide +kernel
theorem dX5_copy_65 : decode cX5_copy 65 = .ok (.getfield 202, 3) := by decide +kernel
theorem dX5_copy_68 : decode cX5_copy 68 = .ok (.if_icmp .eq 6, 3) := by decide +kernel
theorem dX5_copy_71 : decode cX5_copy 71 = .ok (.bipush (-13), 2) := by decide +kernel
theorem dX5_copy_73 : decode cX5_copy 73 = .ok (.ireturn, 1) := by decide +kernel
theorem dX5_copy_74 : decode cX5_copy 74 = .ok (.aload 6, 2) := by decide +kernel
theorem dX5_copy_76 : decode cX5_copy 76 = .ok (.iload_n 2, 1) := by decide +kernel
theorem dX5_copy_77 : decode cX5_copy 77 = .ok (.iload 5, 2) := by decide +kernel
theorem dX5_copy_79 : decode cX5_copy 79 = .ok (.invokevirtual 238, 3) := by decide +kernel
theorem dX5_copy_82 : decode cX5_copy 82 = .ok (.ifCond .eq 15, 3) := by decide +kernel
theorem dX5_copy_85 : decode cX5_copy 85 = .ok (.aload 7, 2) := by decide +kernel
theorem dX5_copy_87 : decode cX5_copy 87 = .ok (.iload 4, 2) := by decide +kernel
theorem dX5_copy_89 : decode cX5_copy 89 = .ok (.iload 5, 2) := by decide +kernel
theorem dX5_copy_91 : decode cX5_copy 91 = .ok (.invokevirtual 238, 3) := by decide +kernel
theorem dX5_copy_94 : decode cX5_copy 94 = .ok (.ifCond .ne 6, 3) := by decide +kernel
theorem dX5_copy_97 : decode cX5_copy 97 = .ok (.bipush (-12), 2) := by decide +kernel
theorem dX5_copy_99 : decode cX5_copy 99 = .ok (.ireturn, 1) := by decide +kernel
theorem dX5_copy_100 : decode cX5_copy 100 = .ok (.aload 6, 2) := by decide +kernel
theorem dX5_copy_102 : decode cX5_copy 102 = .ok (.getfield 242, 3) := by decide +kernel
theorem dX5_copy_105 : decode cX5_copy 105 = .ok (.iload_n 2, 1) := by decide +kernel
theorem dX5_copy_106 : decode cX5_copy 106 = .ok (.aload 7, 2) := by decide +kernel
theorem dX5_copy_108 : decode cX5_copy 108 = .ok (.getfield 242, 3) := by decide +kernel
theorem dX5_copy_111 : decode cX5_copy 111 = .ok (.iload 4, 2) := by decide +kernel
theorem dX5_copy_113 : decode cX5_copy 113 = .ok (.iload 5, 2) := by decide +kernel
theorem dX5_copy_115 : decode cX5_copy 115 = .ok (.invokestatic 245, 3) := by decide +kernel
theorem dX5_copy_118 : decode cX5_copy 118 = .ok (.iload 5, 2) := by decide +kernel
theorem dX5_copy_120 : decode cX5_copy 120 = .ok (.ireturn, 1) := by decide +kernel
theorem dX5_people_0 : decode cX5_people 0 = .ok (.iload_n 1, 1) := by decide +kernel
theorem dX5_people_1 : decode cX5_people 1 = .ok (.iconst 0, 1) := by decide +kernel
theorem dX5_people_2 : decode cX5_people 2 = .ok (.iconst 3, 1) := by decide +kernel
theorem dX5_people_3 : decode cX5_people 3 = .ok (.invokestatic 78, 3) := by decide +kernel
theorem dX5_people_6 : decode cX5_people 6 = .ok (.ifCond .eq 22, 3) := by decide +kernel
theorem dX5_people_9 : decode cX5_people 9 = .ok (.iload_n 2, 1) := by decide +kernel
theorem dX5_people_10 : decode cX5_people 10 = .ok (.iconst 0, 1) := by decide +kernel
theorem dX5_people_11 : decode cX5_people 11 = .ok (.iconst 2, 1) := by decide +kernel
theorem dX5_people_12 : decode cX5_people 12 = .ok (.invokestatic 78, 3) := by decide +kernel
theorem dX5_people_15 : decode cX5_people 15 = .ok (.ifCond .eq 13, 3) := by decide +kernel
theorem dX5_people_18 : decode cX5_people 18 = .ok (.iload 4, 2) := by decide +kernel
theorem dX5_people_20 : decode cX5_people 20 = .ok (.iconst 0, 1) := by decide +kernel
theorem dX5_people_21 : decode cX5_people 21 = .ok (.iconst 5, 1) := by decide +kernel
theorem dX5_people_22 : decode cX5_people 22 = .ok (.invokestatic 78, 3) := by decide +kernel
theorem dX5_people_25 : decode cX5_people 25 = .ok (.ifCond .ne 6, 3) := by decide +kernel
theorem dX5_people_28 : decode cX5_people 28 = .ok (.bipush (-2), 2) := by decide +kernel
theorem dX5_people_30 : decode cX5_people 30 = .ok (.ireturn, 1) := by decide +kernel
theorem dX5_people_31 : decode cX5_people 31 = .ok (.aload_n 0, 1) := by decide +kernel
theorem dX5_people_32 : decode cX5_people 32 = .ok (.getfield 46, 3) := by decide +kernel
theorem dX5_people_35 : decode cX5_people 35 = .ok (.iload_n 1, 1) := by decide +kernel
theorem dX5_people_36 : decode cX5_people 36 = .ok (.aaload, 1) := by decide +kernel
theorem dX5_people_37 : decode cX5_people 37 = .ok (.astore 5, 2) := by decide +kernel
theorem dX5_people_39 : decode cX5_people 39 = .ok (.aload 5, 2) := by decide +kernel
theorem dX5_people_41 : decode cX5_people 41 = .ok (.getfield 202, 3) := by decide +kernel
theorem dX5_people_44 : decode cX5_people 44 = .ok (.iconst (-1), 1) := by decide +kernel
theorem dX5_people_45 : decode cX5_people 45 = .ok (.if_icmp .ne 6, 3) := by decide +kernel
theorem dX5_people_48 : decode cX5_people 48 = .ok (.bipush (-11), 2) := by decide +kernel
theorem dX5_people_50 : decode cX5_people 50 = .ok (.ireturn, 1) := by decide +kernel
theorem dX5_people_51 : decode cX5_people 51 = .ok (.aload 5, 2) := by decide +kernel
theorem dX5_people_53 : decode cX5_people 53 = .ok (.getfield 202, 3) := by decide +kernel
theorem dX5_people_56 : decode cX5_people 56 = .ok (.iload_n 2, 1) := by decide +kernel
theorem dX5_people_57 : decode cX5_people 57 = .ok (.if_icmp .eq 6, 3) := by decide +kernel
theorem dX5_people_60 : decode cX5_people 60 = .ok (.bipush (-13), 2) := by decide +kernel
theorem dX5_people_62 : decode cX5_people 62 = .ok (.ireturn, 1) := by decide +kernel
theorem dX5_people_63 : decode cX5_people 63 = .ok (.iconst 0, 1) := by decide +kernel
theorem dX5_people_64 : decode cX5_people 64 = .ok (.istore 6, 2) := by decide +kernel
theorem dX5_people_66 : decode cX5_people 66 = .ok (.iconst 0, 1) := by decide +kernel
theorem dX5_people_67 : decode cX5_people 67 = .ok (.istore 7, 2) := by decide +kernel
theorem dX5_people_69 : decode cX5_people 69 = .ok (.iload 7, 2) := by decide +kernel
theorem dX5_people_71 : decode cX5_people 71 = .ok (.iload 4, 2) := by decide +kernel
theorem dX5_people_73 : decode cX5_people 73 = .ok (.if_icmp .ge 66, 3) := by decide +kernel
theorem dX5_people_76 : decode cX5_people 76 = .ok (.iload_n 3, 1) := by decide +kernel
theorem dX5_people_77 : decode cX5_people 77 = .ok (.iconst 3, 1) := by decide +kernel
theorem dX5_people_78 : decode cX5_people 78 = .ok (.iload 7, 2) := by decide +kernel
theorem dX5_people_80 : decode cX5_people 80 = .ok (.imul, 1) := by decide +kernel
theorem dX5_people_81 : decode cX5_people 81 = .ok (.iadd, 1) := by decide +kernel
theorem dX5_people_82 : decode cX5_people 82 = .ok (.istore 8, 2) := by decide +kernel
theorem dX5_people_84 : decode cX5_people 84 = .ok (.aload 5, 2) := by decide +kernel
theorem dX5_people_86 : decode cX5_people 86 = .ok (.iload 8, 2) := by decide +kernel
theorem dX5_people_88 : decode cX5_people 88 = .ok (.iconst 3, 1) := by decide +kernel
theorem dX5_people_89 : decode cX5_people 89 = .ok (.invokevirtual 238, 3) := by decide +kernel
theorem dX5_people_92 : decode cX5_people 92 = .ok (.ifCond .ne 6, 3) := by decide +kernel
theorem dX5_people_95 : decode cX5_people 95 = .ok (.bipush (-12), 2) := by decide +kernel
theorem dX5_people_97 : decode cX5_people 97 = .ok (.ireturn, 1) := by decide +kernel
theorem dX5_people_98 : decode cX5_people 98 = .ok (.aload_n 0, 1) := by decide +kernel
theorem dX5_people_99 : decode cX5_people 99 = .ok (.aload 5, 2) := by decide +kernel
theorem dX5_people_101 : decode cX5_people 101 = .ok (.iload 8, 2) := by decide +kernel
theorem dX5_people_103 : decode cX5_people 103 = .ok (.invokevirtual 229, 3) := by decide +kernel
theorem dX5_people_106 : decode cX5_people 106 = .ok (.aload 5, 2) := by decide +kernel
theorem dX5_people_108 : decode cX5_people 108 = .ok (.iload 8, 2) := by decide +kernel
theorem dX5_people_110 : decode cX5_people 110 = .ok (.iconst 1, 1) := by decide +kernel
theorem dX5_people_111 : decode cX5_people 111 = .ok (.iadd, 1) := by decide +kernel
theorem dX5_people_112 : decode cX5_people 112 = .ok (.invokevirtual 229, 3) := by decide +kernel
theorem dX5_people_115 : decode cX5_people 115 = .ok (.aload 5, 2) := by decide +kernel
theorem dX5_people_117 : decode cX5_people 117 = .ok (.iload 8, 2) := by decide +kernel
theorem dX5_people_119 : decode cX5_people 119 = .ok (.iconst 2, 1) := by decide +kernel
theorem dX5_people_120 : decode cX5_people 120 = .ok (.iadd, 1) := by decide +kernel
theorem dX5_people_121 : decode cX5_people 121 = .ok (.invokevirtual 229, 3) := by decide +kernel
theorem dX5_people_124 : decode cX5_people 124 = .ok (.invokevirtual 251, 3) := by decide +kernel
theorem dX5_people_127 : decode cX5_people 127 = .ok (.ifCond .lt 6, 3) := by decide +kernel
theorem dX5_people_130 : decode cX5_people 130 = .ok (.iinc 6 1, 3) := by decide +kernel
theorem dX5_people_133 : decode cX5_people 133 = .ok (.iinc 7 1, 3) := by decide +kernel
theorem dX5_people_136 : decode cX5_people 136 = .ok (.goto (-67), 3) := by decide +kernel
theorem dX5_people_139 : decode cX5_people 139 = .ok (.iload 6, 2) := by decide +kernel
theorem dX5_people_141 : decode cX5_people 141 = .ok (.ireturn, 1) := by decide +kernel
theorem dX5_taken_0 : decode cX5_taken 0 = .ok (.iload_n 2, 1) := by decide +kernel
theorem dX5_taken_1 : decode cX5_taken 1 = .ok (.iconst 0, 1) := by decide +kernel
theorem dX5_taken_2 : decode cX5_taken 2 = .ok (.iconst 5, 1) := by decide +kernel
theorem dX5_taken_3 : decode cX5_taken 3 = .ok (.invokestatic 78, 3) := by decide +kernel
theorem dX5_taken_6 : decode cX5_taken 6 = .ok (.ifCond .ne 6, 3) := by decide +kernel
theorem dX5_taken_9 : decode cX5_taken 9 = .ok (.bipush (-2), 2) := by decide +kernel
theorem dX5_taken_11 : decode cX5_taken 11 = .ok (.ireturn, 1) := by decide +kernel
theorem dX5_taken_12 : decode cX5_taken 12 = .ok (.aload_n 0, 1) := by decide +kernel
theorem dX5_taken_13 : decode cX5_taken 13 = .ok (.getfield 34, 3) := by decide +kernel
theorem dX5_taken_16 : decode cX5_taken 16 = .ok (.iload_n 1, 1) := by decide +kernel
theorem dX5_taken_17 : decode cX5_taken 17 = .ok (.invokevirtual 106, 3) := by decide +kernel
theorem dX5_taken_20 : decode cX5_taken 20 = .ok (.ifCond .ne 6, 3) := by decide +kernel
theorem dX5_taken_23 : decode cX5_taken 23 = .ok (.bipush (-11), 2) := by decide +kernel
theorem dX5_taken_25 : decode cX5_taken 25 = .ok (.ireturn, 1) := by decide +kernel
theorem dX5_taken_26 : decode cX5_taken 26 = .ok (.aload_n 0, 1) := by decide +kernel
theorem dX5_taken_27 : decode cX5_taken 27 = .ok (.getfield 34, 3) := by decide +kernel
theorem dX5_taken_30 : decode cX5_taken 30 = .ok (.getfield 110, 3) := by decide +kernel
theorem dX5_taken_33 : decode cX5_taken 33 = .ok (.iload_n 1, 1) := by decide +kernel
theorem dX5_taken_34 : decode cX5_taken 34 = .ok (.iaload, 1) := by decide +kernel
theorem dX5_taken_35 : decode cX5_taken 35 = .ok (.iload_n 2, 1) := by decide +kernel
theorem dX5_taken_36 : decode cX5_taken 36 = .ok (.invokestatic 254, 3) := by decide +kernel
theorem dX5_taken_39 : decode cX5_taken 39 = .ok (.ifCond .eq 15, 3) := by decide +kernel
theorem dX5_taken_42 : decode cX5_taken 42 = .ok (.aload_n 0, 1) := by decide +kernel
theorem dX5_taken_43 : decode cX5_taken 43 = .ok (.getfield 34, 3) := by decide +kernel
theorem dX5_taken_46 : decode cX5_taken 46 = .ok (.getfield 89, 3) := by decide +kernel
theorem dX5_taken_49 : decode cX5_taken 49 = .ok (.iload_n 1, 1) := by decide +kernel
theorem dX5_taken_50 : decode cX5_taken 50 = .ok (.iaload, 1) := by decide +kernel
theorem dX5_taken_51 : decode cX5_taken 51 = .ok (.goto 5, 3) := by decide +kernel
theorem dX5_taken_54 : decode cX5_taken 54 = .ok (.bipush (-13), 2) := by decide +kernel
theorem dX5_taken_56 : decode cX5_taken 56 = .ok (.ireturn, 1) := by decide +kernel
theorem dX5_isUnder_0 : decode cX5_isUnder 0 = .ok (.iload_n 0, 1) := by decide +kernel
theorem dX5_isUnder_1 : decode cX5_isUnder 1 = .ok (.istore_n 2, 1) := by decide +kernel
theorem dX5_isUnder_2 : decode cX5_isUnder 2 = .ok (.iconst 0, 1) := by decide +kernel
theorem dX5_isUnder_3 : decode cX5_isUnder 3 = .ok (.istore_n 3, 1) := by decide +kernel
theorem dX5_isUnder_4 : decode cX5_isUnder 4 = .ok (.iload_n 3, 1) := by decide +kernel
theorem dX5_isUnder_5 : decode cX5_isUnder 5 = .ok (.bipush 6, 2) := by decide +kernel
theorem dX5_isUnder_7 : decode cX5_isUnder 7 = .ok (.if_icmp .ge 23, 3) := by decide +kernel
theorem dX5_isUnder_10 : decode cX5_isUnder 10 = .ok (.iload_n 2, 1) := by decide +kernel
theorem dX5_isUnder_11 : decode cX5_isUnder 11 = .ok (.iload_n 1, 1) := by decide +kernel
theorem dX5_isUnder_12 : decode cX5_isUnder 12 = .ok (.if_icmp .eq 18, 3) := by decide +kernel
theorem dX5_isUnder_15 : decode cX5_isUnder 15 = .ok (.iload_n 2, 1) := by decide +kernel
theorem dX5_isUnder_16 : decode cX5_isUnder 16 = .ok (.ifCond .eq 14, 3) := by decide +kernel
theorem dX5_isUnder_19 : decode cX5_isUnder 19 = .ok (.iload_n 2, 1) := by decide +kernel
theorem dX5_isUnder_20 : decode cX5_isUnder 20 = .ok (.invokestatic 257, 3) := by decide +kernel
theorem dX5_isUnder_23 : decode cX5_isUnder 23 = .ok (.istore_n 2, 1) := by decide +kernel
theorem dX5_isUnder_24 : decode cX5_isUnder 24 = .ok (.iinc 3 1, 3) := by decide +kernel
theorem dX5_isUnder_27 : decode cX5_isUnder 27 = .ok (.goto (-23), 3) := by decide +kernel
theorem dX5_isUnder_30 : decode cX5_isUnder 30 = .ok (.iload_n 2, 1) := by decide +kernel
theorem dX5_isUnder_31 : decode cX5_isUnder 31 = .ok (.iload_n 1, 1) := by decide +kernel
theorem dX5_isUnder_32 : decode cX5_isUnder 32 = .ok (.if_icmp .ne 7, 3) := by decide +kernel
theorem dX5_isUnder_35 : decode cX5_isUnder 35 = .ok (.iconst 1, 1) := by decide +kernel
theorem dX5_isUnder_36 : decode cX5_isUnder 36 = .ok (.goto 4, 3) := by decide +kernel
theorem dX5_isUnder_39 : decode cX5_isUnder 39 = .ok (.iconst 0, 1) := by decide +kernel
theorem dX5_isUnder_40 : decode cX5_isUnder 40 = .ok (.ireturn, 1) := by decide +kernel
theorem dX5_kindAbove_0 : decode cX5_kindAbove 0 = .ok (.iload_n 0, 1) := by decide +kernel
theorem dX5_kindAbove_1 : decode cX5_kindAbove 1 = .ok (.lookupswitch 31 #[(3, 27), (4, 29)], 27) := by decide +kernel
theorem dX5_kindAbove_28 : decode cX5_kindAbove 28 = .ok (.iconst 1, 1) := by decide +kernel
theorem dX5_kindAbove_29 : decode cX5_kindAbove 29 = .ok (.ireturn, 1) := by decide +kernel
theorem dX5_kindAbove_30 : decode cX5_kindAbove 30 = .ok (.iconst 2, 1) := by decide +kernel
theorem dX5_kindAbove_31 : decode cX5_kindAbove 31 = .ok (.ireturn, 1) := by decide +kernel
theorem dX5_kindAbove_32 : decode cX5_kindAbove 32 = .ok (.iconst 0, 1) := by decide +kernel
theorem dX5_kindAbove_33 : decode cX5_kindAbove 33 = .ok (.ireturn, 1) := by decide +kernel
theorem dX5_within_0 : decode cX5_within 0 = .ok (.iload_n 0, 1) := by decide +kernel
theorem dX5_within_1 : decode cX5_within 1 = .ok (.iload_n 1, 1) := by decide +kernel
theorem dX5_within_2 : decode cX5_within 2 = .ok (.if_icmp .lt 12, 3) := by decide +kernel
theorem dX5_within_5 : decode cX5_within 5 = .ok (.iload_n 0, 1) := by decide +kernel
theorem dX5_within_6 : decode cX5_within 6 = .ok (.iload_n 2, 1) := by decide +kernel
theorem dX5_within_7 : decode cX5_within 7 = .ok (.if_icmp .gt 7, 3) := by decide +kernel
theorem dX5_within_10 : decode cX5_within 10 = .ok (.iconst 1, 1) := by decide +kernel
theorem dX5_within_11 : decode cX5_within 11 = .ok (.goto 4, 3) := by decide +kernel
theorem dX5_within_14 : decode cX5_within 14 = .ok (.iconst 0, 1) := by decide +kernel
theorem dX5_within_15 : decode cX5_within 15 = .ok (.ireturn, 1) := by decide +kernel
theorem dX5_bounded_0 : decode cX5_bounded 0 = .ok (.iload_n 1, 1) := by decide +kernel
theorem dX5_bounded_1 : decode cX5_bounded 1 = .ok (.iload_n 2, 1) := by decide +kernel
theorem dX5_bounded_2 : decode cX5_bounded 2 = .ok (.iload_n 0, 1) := by decide +kernel
theorem dX5_bounded_3 : decode cX5_bounded 3 = .ok (.invokestatic 192, 3) := by decide +kernel
theorem dX5_bounded_6 : decode cX5_bounded 6 = .ok (.invokestatic 260, 3) := by decide +kernel
theorem dX5_bounded_9 : decode cX5_bounded 9 = .ok (.ireturn, 1) := by decide +kernel
theorem dX6_init_0 : decode cX6_init 0 = .ok (.aload_n 0, 1) := by decide +kernel
theorem dX6_init_1 : decode cX6_init 1 = .ok (.invokespecial 1, 3) := by decide +kernel
theorem dX6_init_4 : decode cX6_init 4 = .ok (.aload_n 0, 1) := by decide +kernel
theorem dX6_init_5 : decode cX6_init 5 = .ok (.iconst 5, 1) := by decide +kernel
theorem dX6_init_6 : decode cX6_init 6 = .ok (.newarray .int, 2) := by decide +kernel
theorem dX6_init_8 : decode cX6_init 8 = .ok (.putfield 7, 3) := by decide +kernel
theorem dX6_init_11 : decode cX6_init 11 = .ok (.aload_n 0, 1) := by decide +kernel
theorem dX6_init_12 : decode cX6_init 12 = .ok (.iconst 5, 1) := by decide +kernel
theorem dX6_init_13 : decode cX6_init 13 = .ok (.newarray .int, 2) := by decide +kernel
theorem dX6_init_15 : decode cX6_init 15 = .ok (.putfield 13, 3) := by decide +kernel
theorem dX6_init_18 : decode cX6_init 18 = .ok (.aload_n 0, 1) := by decide +kernel
theorem dX6_init_19 : decode cX6_init 19 = .ok (.iconst 5, 1) := by decide +kernel
theorem dX6_init_20 : decode cX6_init 20 = .ok (.newarray .int, 2) := by decide +kernel
theorem dX6_init_22 : decode cX6_init 22 = .ok (.putfield 16, 3) := by decide +kernel
theorem dX6_init_25 : decode cX6_init 25 = .ok (.aload_n 0, 1) := by decide +kernel
theorem dX6_init_26 : decode cX6_init 26 = .ok (.iconst 5, 1) := by decide +kernel
theorem dX6_init_27 : decode cX6_init 27 = .ok (.newarray .int, 2) := by decide +kernel
theorem dX6_init_29 : decode cX6_init 29 = .ok (.putfield 19, 3) := by decide +kernel
theorem dX6_init_32 : decode cX6_init 32 = .ok (.aload_n 0, 1) := by decide +kernel
theorem dX6_init_33 : decode cX6_init 33 = .ok (.sipush 160, 3) := by decide +kernel
theorem dX6_init_36 : decode cX6_init 36 = .ok (.newarray .int, 2) := by decide +kernel
theorem dX6_init_38 : decode cX6_init 38 = .ok (.putfield 22, 3) := by decide +kernel
theorem dX6_init_41 : decode cX6_init 41 = .ok (.aload_n 0, 1) := by decide +kernel
theorem dX6_init_42 : decode cX6_init 42 = .ok (.bipush 18, 2) := by decide +kernel
theorem dX6_init_44 : decode cX6_init 44 = .ok (.newarray .int, 2) := by decide +kernel
theorem dX6_init_46 : decode cX6_init 46 = .ok (.putfield 25, 3) := by decide +kernel
theorem dX6_init_49 : decode cX6_init 49 = .ok (.aload_n 0, 1) := by decide +kernel
theorem dX6_init_50 : decode cX6_init 50 = .ok (.bipush 18, 2) := by decide +kernel
theorem dX6_init_52 : decode cX6_init 52 = .ok (.newarray .int, 2) := by decide +kernel
theorem dX6_init_54 : decode cX6_init 54 = .ok (.putfield 28, 3) := by decide +kernel
theorem dX6_init_57 : decode cX6_init 57 = .ok (.aload_n 0, 1) := by decide +kernel
theorem dX6_init_58 : decode cX6_init 58 = .ok (.sipush 3000, 3) := by decide +kernel
theorem dX6_init_61 : decode cX6_init 61 = .ok (.newarray .int, 2) := by decide +kernel
theorem dX6_init_63 : decode cX6_init 63 = .ok (.putfield 31, 3) := by decide +kernel
theorem dX6_init_66 : decode cX6_init 66 = .ok (.aload_n 0, 1) := by decide +kernel
theorem dX6_init_67 : decode cX6_init 67 = .ok (.sipush 200, 3) := by decide +kernel
theorem dX6_init_70 : decode cX6_init 70 = .ok (.newarray .int, 2) := by decide +kernel
theorem dX6_init_72 : decode cX6_init 72 = .ok (.putfield 34, 3) := by decide +kernel
theorem dX6_init_75 : decode cX6_init 75 = .ok (.aload_n 0, 1) := by decide +kernel
theorem dX6_init_76 : decode cX6_init 76 = .ok (.sipush 200, 3) := by decide +kernel
theorem dX6_init_79 : decode cX6_init 79 = .ok (.newarray .int, 2) := by decide +kernel
theorem dX6_init_81 : decode cX6_init 81 = .ok (.putfield 37, 3) := by decide +kernel
theorem dX6_init_84 : decode cX6_init 84 = .ok (.aload_n 0, 1) := by decide +kernel
theorem dX6_init_85 : decode cX6_init 85 = .ok (.bipush 6, 2) := by decide +kernel
theorem dX6_init_87 : decode cX6_init 87 = .ok (.newarray .int, 2) := by decide +kernel
theorem dX6_init_89 : decode cX6_init 89 = .ok (.putfield 40, 3) := by decide +kernel
theorem dX6_init_92 : decode cX6_init 92 = .ok (.aload_n 0, 1) := by decide +kernel
theorem dX6_init_93 : decode cX6_init 93 = .ok (.iconst 5, 1) := by decide +kernel
theorem dX6_init_94 : decode cX6_init 94 = .ok (.newarray .int, 2) := by decide +kernel
theorem dX6_init_96 : decode cX6_init 96 = .ok (.putfield 43, 3) := by decide +kernel
theorem dX6_init_99 : decode cX6_init 99 = .ok (.aload_n 0, 1) := by decide +kernel
theorem dX6_init_100 : decode cX6_init 100 = .ok (.iconst 5, 1) := by decide +kernel
theorem dX6_init_101 : decode cX6_init 101 = .ok (.newarray .int, 2) := by decide +kernel
theorem dX6_init_103 : decode cX6_init 103 = .ok (.putfield 46, 3) := by decide +kernel
theorem dX6_init_106 : decode cX6_init 106 = .ok (.aload_n 0, 1) := by decide +kernel
theorem dX6_init_107 : decode cX6_init 107 = .ok (.iconst 5, 1) := by decide +kernel
theorem dX6_init_108 : decode cX6_init 108 = .ok (.newarray .int, 2) := by decide +kernel
theorem dX6_init_110 : decode cX6_init 110 = .ok (.putfield 49, 3) := by decide +kernel
theorem dX6_init_113 : decode cX6_init 113 = .ok (.aload_n 0, 1) := by decide +kernel
theorem dX6_init_114 : decode cX6_init 114 = .ok (.sipush 31000, 3) := by decide +kernel
theorem dX6_init_117 : decode cX6_init 117 = .ok (.newarray .boolean, 2) := by decide +kernel
theorem dX6_init_119 : decode cX6_init 119 = .ok (.putfield 52, 3) := by decide +kernel
theorem dX6_init_122 : decode cX6_init 122 = .ok (.aload_n 0, 1) := by decide +kernel
theorem dX6_init_123 : decode cX6_init 123 = .ok (.sipush 31000, 3) := by decide +kernel
theorem dX6_init_126 : decode cX6_init 126 = .ok (.newarray .int, 2) := by decide +kernel
theorem dX6_init_128 : decode cX6_init 128 = .ok (.putfield 56, 3) := by decide +kernel
theorem dX6_init_131 : decode cX6_init 131 = .ok (.aload_n 0, 1) := by decide +kernel
theorem dX6_init_132 : decode cX6_init 132 = .ok (.iconst 5, 1) := by decide +kernel
theorem dX6_init_133 : decode cX6_init 133 = .ok (.newarray .int, 2) := by decide +kernel
theorem dX6_init_135 : decode cX6_init 135 = .ok (.putfield 59, 3) := by decide +kernel
theorem dX6_init_138 : decode cX6_init 138 = .ok (.aload_n 0, 1) := by decide +kernel
theorem dX6_init_139 : decode cX6_init 139 = .ok (.iconst 5, 1) := by decide +kernel
theorem dX6_init_140 : decode cX6_init 140 = .ok (.newarray .int, 2) := by decide +kernel
theorem dX6_init_142 : decode cX6_init 142 = .ok (.putfield 62, 3) := by decide +kernel
theorem dX6_init_145 : decode cX6_init 145 = .ok (.aload_n 0, 1) := by decide +kernel
theorem dX6_init_146 : decode cX6_init 146 = .ok (.iconst 5, 1) := by decide +kernel
theorem dX6_init_147 : decode cX6_init 147 = .ok (.newarray .int, 2) := by decide +kernel
theorem dX6_init_149 : decode cX6_init 149 = .ok (.putfield 65, 3) := by decide +kernel
theorem dX6_init_152 : decode cX6_init 152 = .ok (.aload_n 0, 1) := by decide +kernel
theorem dX6_init_153 : decode cX6_init 153 = .ok (.iconst 4, 1) := by decide +kernel
theorem dX6_init_154 : decode cX6_init 154 = .ok (.newarray .int, 2) := by decide +kernel
theorem dX6_init_156 : decode cX6_init 156 = .ok (.putfield 68, 3) := by decide +kernel
theorem dX6_init_159 : decode cX6_init 159 = .ok (.aload_n 0, 1) := by decide +kernel
theorem dX6_init_160 : decode cX6_init 160 = .ok (.iconst 4, 1) := by decide +kernel
theorem dX6_init_161 : decode cX6_init 161 = .ok (.newarray .int, 2) := by decide +kernel
theorem dX6_init_163 : decode cX6_init 163 = .ok (.putfield 71, 3) := by decide +kernel
theorem dX6_init_166 : decode cX6_init 166 = .ok (.aload_n 0, 1) := by decide +kernel
theorem dX6_init_167 : decode cX6_init 167 = .ok (.sipush 160, 3) := by decide +kernel
theorem dX6_init_170 : decode cX6_init 170 = .ok (.newarray .int, 2) := by decide +kernel
theorem dX6_init_172 : decode cX6_init 172 = .ok (.putfield 74, 3) := by decide +kernel
theorem dX6_init_175 : decode cX6_init 175 = .ok (.iconst 0, 1) := by decide +kernel
theorem dX6_init_176 : decode cX6_init 176 = .ok (.istore_n 1, 1) := by decide +kernel
theorem dX6_init_177 : decode cX6_init 177 = .ok (.iload_n 1, 1) := by decide +kernel
theorem dX6_init_178 : decode cX6_init 178 = .ok (.iconst 4, 1) := by decide +kernel
theorem dX6_init_179 : decode cX6_init 179 = .ok (.if_icmp .ge 16, 3) := by decide +kernel
theorem dX6_init_182 : decode cX6_init 182 = .ok (.aload_n 0, 1) := by decide +kernel
theorem dX6_init_183 : decode cX6_init 183 = .ok (.getfield 68, 3) := by decide +kernel
theorem dX6_init_186 : decode cX6_init 186 = .ok (.iload_n 1, 1) := by decide +kernel
theorem dX6_init_187 : decode cX6_init 187 = .ok (.iconst (-1), 1) := by decide +kernel
theorem dX6_init_188 : decode cX6_init 188 = .ok (.iastore, 1) := by decide +kernel
theorem dX6_init_189 : decode cX6_init 189 = .ok (.iinc 1 1, 3) := by decide +kernel
theorem dX6_init_192 : decode cX6_init 192 = .ok (.goto (-15), 3) := by decide +kernel
theorem dX6_init_195 : decode cX6_init 195 = .ok (.aload_n 0, 1) := by decide +kernel
theorem dX6_init_196 : decode cX6_init 196 = .ok (.bipush 16, 2) := by decide +kernel
theorem dX6_init_198 : decode cX6_init 198 = .ok (.invokevirtual 77, 3) := by decide +kernel
theorem dX6_init_201 : decode cX6_init 201 = .ok (.aload_n 0, 1) := by decide +kernel
theorem dX6_init_202 : decode cX6_init 202 = .ok (.iconst 0, 1) := by decide +kernel
theorem dX6_init_203 : decode cX6_init 203 = .ok (.invokevirtual 77, 3) := by decide +kernel
theorem dX6_init_206 : decode cX6_init 206 = .ok (.aload_n 0, 1) := by decide +kernel
theorem dX6_init_207 : decode cX6_init 207 = .ok (.bipush 6, 2) := by decide +kernel
theorem dX6_init_209 : decode cX6_init 209 = .ok (.invokevirtual 77, 3) := by decide +kernel
theorem dX6_init_212 : decode cX6_init 212 = .ok (.aload_n 0, 1) := by decide +kernel
theorem dX6_init_213 : decode cX6_init 213 = .ok (.bipush 15, 2) := by decide +kernel
theorem dX6_init_215 : decode cX6_init 215 = .ok (.invokevirtual 77, 3) := by decide +kernel
theorem dX6_init_218 : decode cX6_init 218 = .ok (.aload_n 0, 1) := by decide +kernel
theorem dX6_init_219 : decode cX6_init 219 = .ok (.bipush 16, 2) := by decide +kernel
theorem dX6_init_221 : decode cX6_init 221 = .ok (.invokevirtual 77, 3) := by decide +kernel
theorem dX6_init_224 : decode cX6_init 224 = .ok (.aload_n 0, 1) := by decide +kernel
theorem dX6_init_225 : decode cX6_init 225 = .ok (.getfield 28, 3) := by decide +kernel
theorem dX6_init_228 : decode cX6_init 228 = .ok (.iconst 0, 1) := by decide +kernel
theorem dX6_init_229 : decode cX6_init 229 = .ok (.iconst 3, 1) := by decide +kernel
theorem dX6_init_230 : decode cX6_init 230 = .ok (.iastore, 1) := by decide +kernel
theorem dX6_init_231 : decode cX6_init 231 = .ok (.aload_n 0, 1) := by decide +kernel
theorem dX6_init_232 : decode cX6_init 232 = .ok (.getfield 25, 3) := by decide +kernel
theorem dX6_init_235 : decode cX6_init 235 = .ok (.iconst 1, 1) := by decide +kernel
theorem dX6_init_236 : decode cX6_init 236 = .ok (.iconst 3, 1) := by decide +kernel
theorem dX6_init_237 : decode cX6_init 237 = .ok (.iastore, 1) := by decide +kernel
theorem dX6_init_238 : decode cX6_init 238 = .ok (.aload_n 0, 1) := by decide +kernel
theorem dX6_init_239 : decode cX6_init 239 = .ok (.getfield 28, 3) := by decide +kernel
theorem dX6_init_242 : decode cX6_init 242 = .ok (.iconst 1, 1) := by decide +kernel
theorem dX6_init_243 : decode cX6_init 243 = .ok (.iconst 1, 1) := by decide +kernel
theorem dX6_init_244 : decode cX6_init 244 = .ok (.iastore, 1) := by decide +kernel
theorem dX6_init_245 : decode cX6_init 245 = .ok (.aload_n 0, 1) := by decide +kernel
theorem dX6_init_246 : decode cX6_init 246 = .ok (.getfield 25, 3) := by decide +kernel
theorem dX6_init_249 : decode cX6_init 249 = .ok (.iconst 2, 1) := by decide +kernel
theorem dX6_init_250 : decode cX6_init 250 = .ok (.iconst 4, 1) := by decide +kernel
theorem dX6_init_251 : decode cX6_init 251 = .ok (.iastore, 1) := by decide +kernel
theorem dX6_init_252 : decode cX6_init 252 = .ok (.aload_n 0, 1) := by decide +kernel
theorem dX6_init_253 : decode cX6_init 253 = .ok (.getfield 28, 3) := by decide +kernel
theorem dX6_init_256 : decode cX6_init 256 = .ok (.iconst 2, 1) := by decide +kernel
theorem dX6_init_257 : decode cX6_init 257 = .ok (.iconst 1, 1) := by decide +kernel
theorem dX6_init_258 : decode cX6_init 258 = .ok (.iastore, 1) := by decide +kernel
theorem dX6_init_259 : decode cX6_init 259 = .ok (.aload_n 0, 1) := by decide +kernel
theorem dX6_init_260 : decode cX6_init 260 = .ok (.iconst 1, 1) := by decide +kernel
theorem dX6_init_261 : decode cX6_init 261 = .ok (.putfield 81, 3) := by decide +kernel
theorem dX6_init_264 : decode cX6_init 264 = .ok (.return_, 1) := by decide +kernel
theorem dX6_within_0 : decode cX6_within 0 = .ok (.iload_n 0, 1) := by decide +kernel
theorem dX6_within_1 : decode cX6_within 1 = .ok (.iload_n 1, 1) := by decide +kernel
theorem dX6_within_2 : decode cX6_within 2 = .ok (.if_icmp .lt 12, 3) := by decide +kernel
theorem dX6_within_5 : decode cX6_within 5 = .ok (.iload_n 0, 1) := by decide +kernel
theorem dX6_within_6 : decode cX6_within 6 = .ok (.iload_n 2, 1) := by decide +kernel
theorem dX6_within_7 : decode cX6_within 7 = .ok (.if_icmp .gt 7, 3) := by decide +kernel
theorem dX6_within_10 : decode cX6_within 10 = .ok (.iconst 1, 1) := by decide +kernel
theorem dX6_within_11 : decode cX6_within 11 = .ok (.goto 4, 3) := by decide +kernel
theorem dX6_within_14 : decode cX6_within 14 = .ok (.iconst 0, 1) := by decide +kernel
theorem dX6_within_15 : decode cX6_within 15 = .ok (.ireturn, 1) := by decide +kernel
theorem dX6_bound_0 : decode cX6_bound 0 = .ok (.iload_n 0, 1) := by decide +kernel
theorem dX6_bound_1 : decode cX6_bound 1 = .ok (.iload_n 1, 1) := by decide +kernel
theorem dX6_bound_2 : decode cX6_bound 2 = .ok (.if_icmp .ge 7, 3) := by decide +kernel
theorem dX6_bound_5 : decode cX6_bound 5 = .ok (.iload_n 1, 1) := by decide +kernel
theorem dX6_bound_6 : decode cX6_bound 6 = .ok (.goto 13, 3) := by decide +kernel
theorem dX6_bound_9 : decode cX6_bound 9 = .ok (.iload_n 0, 1) := by decide +kernel
theorem dX6_bound_10 : decode cX6_bound 10 = .ok (.iload_n 2, 1) := by decide +kernel
theorem dX6_bound_11 : decode cX6_bound 11 = .ok (.if_icmp .le 7, 3) := by decide +kernel
theorem dX6_bound_14 : decode cX6_bound 14 = .ok (.iload_n 2, 1) := by decide +kernel
theorem dX6_bound_15 : decode cX6_bound 15 = .ok (.goto 4, 3) := by decide +kernel
theorem dX6_bound_18 : decode cX6_bound 18 = .ok (.iload_n 0, 1) := by decide +kernel
theorem dX6_bound_19 : decode cX6_bound 19 = .ok (.ireturn, 1) := by decide +kernel
theorem dX6_isOne_0 : decode cX6_isOne 0 = .ok (.iload_n 1, 1) := by decide +kernel
theorem dX6_isOne_1 : decode cX6_isOne 1 = .ok (.iconst 0, 1) := by decide +kernel
theorem dX6_isOne_2 : decode cX6_isOne 2 = .ok (.aload_n 0, 1) := by decide +kernel
theorem dX6_isOne_3 : decode cX6_isOne 3 = .ok (.getfield 85, 3) := by decide +kernel
theorem dX6_isOne_6 : decode cX6_isOne 6 = .ok (.iconst 1, 1) := by decide +kernel
theorem dX6_isOne_7 : decode cX6_isOne 7 = .ok (.isub, 1) := by decide +kernel
theorem dX6_isOne_8 : decode cX6_isOne 8 = .ok (.invokestatic 88, 3) := by decide +kernel
theorem dX6_isOne_11 : decode cX6_isOne 11 = .ok (.ireturn, 1) := by decide +kernel
theorem dX6_areThree_0 : decode cX6_areThree 0 = .ok (.iload_n 1, 1) := by decide +kernel
theorem dX6_areThree_1 : decode cX6_areThree 1 = .ok (.ifCond .lt 10, 3) := by decide +kernel
theorem dX6_areThree_4 : decode cX6_areThree 4 = .ok (.iload_n 1, 1) := by decide +kernel
theorem dX6_areThree_5 : decode cX6_areThree 5 = .ok (.sipush 999, 3) := by decide +kernel
theorem dX6_areThree_8 : decode cX6_areThree 8 = .ok (.if_icmp .le 5, 3) := by decide +kernel
theorem dX6_areThree_11 : decode cX6_areThree 11 = .ok (.iconst 0, 1) := by decide +kernel
theorem dX6_areThree_12 : decode cX6_areThree 12 = .ok (.ireturn, 1) := by decide +kernel
theorem dX6_areThree_13 : decode cX6_areThree 13 = .ok (.iload_n 1, 1) := by decide +kernel
theorem dX6_areThree_14 : decode cX6_areThree 14 = .ok (.bipush 100, 2) := by decide +kernel
theorem dX6_areThree_16 : decode cX6_areThree 16 = .ok (.idiv, 1) := by decide +kernel
theorem dX6_areThree_17 : decode cX6_areThree 17 = .ok (.istore_n 2, 1) := by decide +kernel
theorem dX6_areThree_18 : decode cX6_areThree 18 = .ok (.iload_n 1, 1) := by decide +kernel
theorem dX6_areThree_19 : decode cX6_areThree 19 = .ok (.bipush 10, 2) := by decide +kernel
theorem dX6_areThree_21 : decode cX6_areThree 21 = .ok (.idiv, 1) := by decide +kernel
theorem dX6_areThree_22 : decode cX6_areThree 22 = .ok (.bipush 10, 2) := by decide +kernel
theorem dX6_areThree_24 : decode cX6_areThree 24 = .ok (.irem, 1) := by decide +kernel
theorem dX6_areThree_25 : decode cX6_areThree 25 = .ok (.istore_n 3, 1) := by decide +kernel
theorem dX6_areThree_26 : decode cX6_areThree 26 = .ok (.iload_n 1, 1) := by decide +kernel
theorem dX6_areThree_27 : decode cX6_areThree 27 = .ok (.bipush 10, 2) := by decide +kernel
theorem dX6_areThree_29 : decode cX6_areThree 29 = .ok (.irem, 1) := by decide +kernel
theorem dX6_areThree_30 : decode cX6_areThree 30 = .ok (.istore 4, 2) := by decide +kernel
theorem dX6_areThree_32 : decode cX6_areThree 32 = .ok (.aload_n 0, 1) := by decide +kernel
theorem dX6_areThree_33 : decode cX6_areThree 33 = .ok (.iload_n 2, 1) := by decide +kernel
theorem dX6_areThree_34 : decode cX6_areThree 34 = .ok (.invokevirtual 92, 3) := by decide +kernel
theorem dX6_areThree_37 : decode cX6_areThree 37 = .ok (.ifCond .eq 41, 3) := by decide +kernel
theorem dX6_areThree_40 : decode cX6_areThree 40 = .ok (.aload_n 0, 1) := by decide +kernel
theorem dX6_areThree_41 : decode cX6_areThree 41 = .ok (.iload_n 3, 1) := by decide +kernel
theorem dX6_areThree_42 : decode cX6_areThree 42 = .ok (.invokevirtual 92, 3) := by decide +kernel
theorem dX6_areThree_45 : decode cX6_areThree 45 = .ok (.ifCond .eq 33, 3) := by decide +kernel
theorem dX6_areThree_48 : decode cX6_areThree 48 = .ok (.aload_n 0, 1) := by decide +kernel
theorem dX6_areThree_49 : decode cX6_areThree 49 = .ok (.iload 4, 2) := by decide +kernel
theorem dX6_areThree_51 : decode cX6_areThree 51 = .ok (.invokevirtual 92, 3) := by decide +kernel
theorem dX6_areThree_54 : decode cX6_areThree 54 = .ok (.ifCond .eq 24, 3) := by decide +kernel
theorem dX6_areThree_57 : decode cX6_areThree 57 = .ok (.iload_n 2, 1) := by decide +kernel
theorem dX6_areThree_58 : decode cX6_areThree 58 = .ok (.iload_n 3, 1) := by decide +kernel
theorem dX6_areThree_59 : decode cX6_areThree 59 = .ok (.if_icmp .eq 19, 3) := by decide +kernel
theorem dX6_areThree_62 : decode cX6_areThree 62 = .ok (.iload_n 2, 1) := by decide +kernel
theorem dX6_areThree_63 : decode cX6_areThree 63 = .ok (.iload 4, 2) := by decide +kernel
theorem dX6_areThree_65 : decode cX6_areThree 65 = .ok (.if_icmp .eq 13, 3) := by decide +kernel
theorem dX6_areThree_68 : decode cX6_areThree 68 = .ok (.iload_n 3, 1) := by decide +kernel
theorem dX6_areThree_69 : decode cX6_areThree 69 = .ok (.iload 4, 2) := by decide +kernel
theorem dX6_areThree_71 : decode cX6_areThree 71 = .ok (.if_icmp .eq 7, 3) := by decide +kernel
theorem dX6_areThree_74 : decode cX6_areThree 74 = .ok (.iconst 1, 1) := by decide +kernel
theorem dX6_areThree_75 : decode cX6_areThree 75 = .ok (.goto 4, 3) := by decide +kernel
theorem dX6_areThree_78 : decode cX6_areThree 78 = .ok (.iconst 0, 1) := by decide +kernel
theorem dX6_areThree_79 : decode cX6_areThree 79 = .ok (.ireturn, 1) := by decide +kernel
theorem dX6_isSheet_0 : decode cX6_isSheet 0 = .ok (.iload_n 0, 1) := by decide +kernel
theorem dX6_isSheet_1 : decode cX6_isSheet 1 = .ok (.iconst 0, 1) := by decide +kernel
theorem dX6_isSheet_2 : decode cX6_isSheet 2 = .ok (.iconst 3, 1) := by decide +kernel
theorem dX6_isSheet_3 : decode cX6_isSheet 3 = .ok (.invokestatic 88, 3) := by decide +kernel
theorem dX6_isSheet_6 : decode cX6_isSheet 6 = .ok (.ireturn, 1) := by decide +kernel
theorem dX6_isOf_0 : decode cX6_isOf 0 = .ok (.iload_n 1, 1) := by decide +kernel
theorem dX6_isOf_1 : decode cX6_isOf 1 = .ok (.iconst 0, 1) := by decide +kernel
theorem dX6_isOf_2 : decode cX6_isOf 2 = .ok (.iconst 1, 1) := by decide +kernel
theorem dX6_isOf_3 : decode cX6_isOf 3 = .ok (.invokestatic 88, 3) := by decide +kernel
theorem dX6_isOf_6 : decode cX6_isOf 6 = .ok (.ifCond .ne 20, 3) := by decide +kernel
theorem dX6_isOf_9 : decode cX6_isOf 9 = .ok (.iload_n 1, 1) := by decide +kernel
theorem dX6_isOf_10 : decode cX6_isOf 10 = .ok (.iconst 2, 1) := by decide +kernel
theorem dX6_isOf_11 : decode cX6_isOf 11 = .ok (.iconst 4, 1) := by decide +kernel
theorem dX6_isOf_12 : decode cX6_isOf 12 = .ok (.invokestatic 88, 3) := by decide +kernel
theorem dX6_isOf_15 : decode cX6_isOf 15 = .ok (.ifCond .eq 15, 3) := by decide +kernel
theorem dX6_isOf_18 : decode cX6_isOf 18 = .ok (.aload_n 0, 1) := by decide +kernel
theorem dX6_isOf_19 : decode cX6_isOf 19 = .ok (.iload_n 2, 1) := by decide +kernel
theorem dX6_isOf_20 : decode cX6_isOf 20 = .ok (.invokevirtual 92, 3) := by decide +kernel
theorem dX6_isOf_23 : decode cX6_isOf 23 = .ok (.ifCond .eq 7, 3) := by decide +kernel
theorem dX6_isOf_26 : decode cX6_isOf 26 = .ok (.iconst 1, 1) := by decide +kernel
theorem dX6_isOf_27 : decode cX6_isOf 27 = .ok (.goto 4, 3) := by decide +kernel
theorem dX6_isOf_30 : decode cX6_isOf 30 = .ok (.iconst 0, 1) := by decide +kernel
theorem dX6_isOf_31 : decode cX6_isOf 31 = .ok (.ireturn, 1) := by decide +kernel
theorem dX6_get_0 : decode cX6_get 0 = .ok (.iload_n 1, 1) := by decide +kernel
theorem dX6_get_1 : decode cX6_get 1 = .ok (.tableswitch 55 0 3 #[31, 36, 41, 48], 31) := by decide +kernel
theorem dX6_get_32 : decode cX6_get 32 = .ok (.aload_n 0, 1) := by decide +kernel
theorem dX6_get_33 : decode cX6_get 33 = .ok (.getfield 96, 3) := by decide +kernel
theorem dX6_get_36 : decode cX6_get 36 = .ok (.ireturn, 1) := by decide +kernel
theorem dX6_get_37 : decode cX6_get 37 = .ok (.aload_n 0, 1) := by decide +kernel
theorem dX6_get_38 : decode cX6_get 38 = .ok (.getfield 99, 3) := by decide +kernel
theorem dX6_get_41 : decode cX6_get 41 = .ok (.ireturn, 1) := by decide +kernel
theorem dX6_get_42 : decode cX6_get 42 = .ok (.aload_n 0, 1) := by decide +kernel
theorem dX6_get_43 : decode cX6_get 43 = .ok (.getfield 13, 3) := by decide +kernel
theorem dX6_get_46 : decode cX6_get 46 = .ok (.iload_n 2, 1) := by decide +kernel
theorem dX6_get_47 : decode cX6_get 47 = .ok (.iaload, 1) := by decide +kernel
theorem dX6_get_48 : decode cX6_get 48 = .ok (.ireturn, 1) := by decide +kernel
theorem dX6_get_49 : decode cX6_get 49 = .ok (.aload_n 0, 1) := by decide +kernel
theorem dX6_get_50 : decode cX6_get 50 = .ok (.getfield 16, 3) := by decide +kernel
theorem dX6_get_53 : decode cX6_get 53 = .ok (.iload_n 2, 1) := by decide +kernel
theorem dX6_get_54 : decode cX6_get 54 = .ok (.iaload, 1) := by decide +kernel
theorem dX6_get_55 : decode cX6_get 55 = .ok (.ireturn, 1) := by decide +kernel
theorem dX6_get_56 : decode cX6_get 56 = .ok (.aload_n 0, 1) := by decide +kernel
theorem dX6_get_57 : decode cX6_get 57 = .ok (.getfield 19, 3) := by decide +kernel
theorem dX6_get_60 : decode cX6_get 60 = .ok (.iload_n 2, 1) := by decide +kernel
theorem dX6_get_61 : decode cX6_get 61 = .ok (.iaload, 1) := by decide +kernel
theorem dX6_get_62 : decode cX6_get 62 = .ok (.ireturn, 1) := by decide +kernel
theorem dX6_set_0 : decode cX6_set 0 = .ok (.aload_n 0, 1) := by decide +kernel
theorem dX6_set_1 : decode cX6_set 1 = .ok (.iload_n 1, 1) := by decide +kernel
theorem dX6_set_2 : decode cX6_set 2 = .ok (.iload_n 2, 1) := by decide +kernel
theorem dX6_set_3 : decode cX6_set 3 = .ok (.invokevirtual 102, 3) := by decide +kernel
theorem dX6_set_6 : decode cX6_set 6 = .ok (.ifCond .eq 29, 3) := by decide +kernel
theorem dX6_set_9 : decode cX6_set 9 = .ok (.iload_n 3, 1) := by decide +kernel
theorem dX6_set_10 : decode cX6_set 10 = .ok (.iconst 0, 1) := by decide +kernel
theorem dX6_set_11 : decode cX6_set 11 = .ok (.iload_n 1, 1) := by decide +kernel
theorem dX6_set_12 : decode cX6_set 12 = .ok (.iconst 1, 1) := by decide +kernel
theorem dX6_set_13 : decode cX6_set 13 = .ok (.if_icmp .eq 8, 3) := by decide +kernel
theorem dX6_set_16 : decode cX6_set 16 = .ok (.iload_n 1, 1) := by decide +kernel
theorem dX6_set_17 : decode cX6_set 17 = .ok (.iconst 2, 1) := by decide +kernel
theorem dX6_set_18 : decode cX6_set 18 = .ok (.if_icmp .ne 8, 3) := by decide +kernel
theorem dX6_set_21 : decode cX6_set 21 = .ok (.bipush 9, 2) := by decide +kernel
theorem dX6_set_23 : decode cX6_set 23 = .ok (.goto 6, 3) := by decide +kernel
theorem dX6_set_26 : decode cX6_set 26 = .ok (.sipush 999, 3) := by decide +kernel
theorem dX6_set_29 : decode cX6_set 29 = .ok (.invokestatic 88, 3) := by decide +kernel
theorem dX6_set_32 : decode cX6_set 32 = .ok (.ifCond .ne 6, 3) := by decide +kernel
theorem dX6_set_35 : decode cX6_set 35 = .ok (.bipush (-2), 2) := by decide +kernel
theorem dX6_set_37 : decode cX6_set 37 = .ok (.ireturn, 1) := by decide +kernel
theorem dX6_set_38 : decode cX6_set 38 = .ok (.aload_n 0, 1) := by decide +kernel
theorem dX6_set_39 : decode cX6_set 39 = .ok (.iload_n 1, 1) := by decide +kernel
theorem dX6_set_40 : decode cX6_set 40 = .ok (.iload_n 2, 1) := by decide +kernel
theorem dX6_set_41 : decode cX6_set 41 = .ok (.invokevirtual 106, 3) := by decide +kernel
theorem dX6_set_44 : decode cX6_set 44 = .ok (.istore 4, 2) := by decide +kernel
theorem dX6_set_46 : decode cX6_set 46 = .ok (.iload_n 1, 1) := by decide +kernel
theorem dX6_set_47 : decode cX6_set 47 = .ok (.tableswitch 65 0 3 #[29, 37, 45, 55], 29) := by decide +kernel
theorem dX6_set_76 : decode cX6_set 76 = .ok (.aload_n 0, 1) := by decide +kernel
theorem dX6_set_77 : decode cX6_set 77 = .ok (.iload_n 3, 1) := by decide +kernel
theorem dX6_set_78 : decode cX6_set 78 = .ok (.putfield 96, 3) := by decide +kernel
theorem dX6_set_81 : decode cX6_set 81 = .ok (.goto 38, 3) := by decide +kernel
theorem dX6_set_84 : decode cX6_set 84 = .ok (.aload_n 0, 1) := by decide +kernel
theorem dX6_set_85 : decode cX6_set 85 = .ok (.iload_n 3, 1) := by decide +kernel
theorem dX6_set_86 : decode cX6_set 86 = .ok (.putfield 99, 3) := by decide +kernel
theorem dX6_set_89 : decode cX6_set 89 = .ok (.goto 30, 3) := by decide +kernel
theorem dX6_set_92 : decode cX6_set 92 = .ok (.aload_n 0, 1) := by decide +kernel
theorem dX6_set_93 : decode cX6_set 93 = .ok (.getfield 13, 3) := by decide +kernel
theorem dX6_set_96 : decode cX6_set 96 = .ok (.iload_n 2, 1) := by decide +kernel
theorem dX6_set_97 : decode cX6_set 97 = .ok (.iload_n 3, 1) := by decide +kernel
theorem dX6_set_98 : decode cX6_set 98 = .ok (.iastore, 1) := by decide +kernel
theorem dX6_set_99 : decode cX6_set 99 = .ok (.goto 20, 3) := by decide +kernel
theorem dX6_set_102 : decode cX6_set 102 = .ok (.aload_n 0, 1) := by decide +kernel
theorem dX6_set_103 : decode cX6_set 103 = .ok (.getfield 16, 3) := by decide +kernel
theorem dX6_set_106 : decode cX6_set 106 = .ok (.iload_n 2, 1) := by decide +kernel
theorem dX6_set_107 : decode cX6_set 107 = .ok (.iload_n 3, 1) := by decide +kernel
theorem dX6_set_108 : decode cX6_set 108 = .ok (.iastore, 1) := by decide +kernel
theorem dX6_set_109 : decode cX6_set 109 = .ok (.goto 10, 3) := by decide +kernel
theorem dX6_set_112 : decode cX6_set 112 = .ok (.aload_n 0, 1) := by decide +kernel
theorem dX6_set_113 : decode cX6_set 113 = .ok (.getfield 19, 3) := by decide +kernel
theorem dX6_set_116 : decode cX6_set 116 = .ok (.iload_n 2, 1) := by decide +kernel
theorem dX6_set_117 : decode cX6_set 117 = .ok (.iload_n 3, 1) := by decide +kernel
theorem dX6_set_118 : decode cX6_set 118 = .ok (.iastore, 1) := by decide +kernel
theorem dX6_set_119 : decode cX6_set 119 = .ok (.iload 4, 2) := by decide +kernel
theorem dX6_set_121 : decode cX6_set 121 = .ok (.ireturn, 1) := by decide +kernel
theorem dX6_person_0 : decode cX6_person 0 = .ok (.iload_n 1, 1) := by decide +kernel
theorem dX6_person_1 : decode cX6_person 1 = .ok (.iconst 0, 1) := by decide +kernel
theorem dX6_person_2 : decode cX6_person 2 = .ok (.iconst 5, 1) := by decide +kernel
theorem dX6_person_3 : decode cX6_person 3 = .ok (.invokestatic 88, 3) := by decide +kernel
theorem dX6_person_6 : decode cX6_person 6 = .ok (.ifCond .eq 24, 3) := by decide +kernel
theorem dX6_person_9 : decode cX6_person 9 = .ok (.iload_n 2, 1) := by decide +kernel
theorem dX6_person_10 : decode cX6_person 10 = .ok (.iconst 0, 1) := by decide +kernel
theorem dX6_person_11 : decode cX6_person 11 = .ok (.bipush 9, 2) := by decide +kernel
theorem dX6_person_13 : decode cX6_person 13 = .ok (.invokestatic 88, 3) := by decide +kernel
theorem dX6_person_16 : decode cX6_person 16 = .ok (.ifCond .eq 14, 3) := by decide +kernel
theorem dX6_person_19 : decode cX6_person 19 = .ok (.iload_n 3, 1) := by decide +kernel
theorem dX6_person_20 : decode cX6_person 20 = .ok (.iconst 0, 1) := by decide +kernel
theorem dX6_person_21 : decode cX6_person 21 = .ok (.sipush 999, 3) := by decide +kernel
theorem dX6_person_24 : decode cX6_person 24 = .ok (.invokestatic 88, 3) := by decide +kernel
theorem dX6_person_27 : decode cX6_person 27 = .ok (.ifCond .ne 6, 3) := by decide +kernel
theorem dX6_person_30 : decode cX6_person 30 = .ok (.bipush (-2), 2) := by decide +kernel
theorem dX6_person_32 : decode cX6_person 32 = .ok (.ireturn, 1) := by decide +kernel
theorem dX6_person_33 : decode cX6_person 33 = .ok (.aload_n 0, 1) := by decide +kernel
theorem dX6_person_34 : decode cX6_person 34 = .ok (.getfield 85, 3) := by decide +kernel
theorem dX6_person_37 : decode cX6_person 37 = .ok (.iconst 5, 1) := by decide +kernel
theorem dX6_person_38 : decode cX6_person 38 = .ok (.if_icmp .ne 6, 3) := by decide +kernel
theorem dX6_person_41 : decode cX6_person 41 = .ok (.bipush (-4), 2) := by decide +kernel
theorem dX6_person_43 : decode cX6_person 43 = .ok (.ireturn, 1) := by decide +kernel
theorem dX6_person_44 : decode cX6_person 44 = .ok (.aload_n 0, 1) := by decide +kernel
theorem dX6_person_45 : decode cX6_person 45 = .ok (.getfield 7, 3) := by decide +kernel
theorem dX6_person_48 : decode cX6_person 48 = .ok (.aload_n 0, 1) := by decide +kernel
theorem dX6_person_49 : decode cX6_person 49 = .ok (.getfield 85, 3) := by decide +kernel
theorem dX6_person_52 : decode cX6_person 52 = .ok (.iload_n 1, 1) := by decide +kernel
theorem dX6_person_53 : decode cX6_person 53 = .ok (.iastore, 1) := by decide +kernel
theorem dX6_person_54 : decode cX6_person 54 = .ok (.aload_n 0, 1) := by decide +kernel
theorem dX6_person_55 : decode cX6_person 55 = .ok (.getfield 13, 3) := by decide +kernel
theorem dX6_person_58 : decode cX6_person 58 = .ok (.aload_n 0, 1) := by decide +kernel
theorem dX6_person_59 : decode cX6_person 59 = .ok (.getfield 85, 3) := by decide +kernel
theorem dX6_person_62 : decode cX6_person 62 = .ok (.iload_n 2, 1) := by decide +kernel
theorem dX6_person_63 : decode cX6_person 63 = .ok (.iastore, 1) := by decide +kernel
theorem dX6_person_64 : decode cX6_person 64 = .ok (.aload_n 0, 1) := by decide +kernel
theorem dX6_person_65 : decode cX6_person 65 = .ok (.getfield 16, 3) := by decide +kernel
theorem dX6_person_68 : decode cX6_person 68 = .ok (.aload_n 0, 1) := by decide +kernel
theorem dX6_person_69 : decode cX6_person 69 = .ok (.getfield 85, 3) := by decide +kernel
theorem dX6_person_72 : decode cX6_person 72 = .ok (.iload_n 3, 1) := by decide +kernel
theorem dX6_person_73 : decode cX6_person 73 = .ok (.iastore, 1) := by decide +kernel
theorem dX6_person_74 : decode cX6_person 74 = .ok (.aload_n 0, 1) := by decide +kernel
theorem dX6_person_75 : decode cX6_person 75 = .ok (.getfield 19, 3) := by decide +kernel
theorem dX6_person_78 : decode cX6_person 78 = .ok (.aload_n 0, 1) := by decide +kernel
theorem dX6_person_79 : decode cX6_person 79 = .ok (.getfield 85, 3) := by decide +kernel
theorem dX6_person_82 : decode cX6_person 82 = .ok (.iconst 0, 1) := by decide +kernel
theorem dX6_person_83 : decode cX6_person 83 = .ok (.iastore, 1) := by decide +kernel
theorem dX6_person_84 : decode cX6_person 84 = .ok (.aload_n 0, 1) := by decide +kernel
theorem dX6_person_85 : decode cX6_person 85 = .ok (.dup, 1) := by decide +kernel
theorem dX6_person_86 : decode cX6_person 86 = .ok (.getfield 85, 3) := by decide +kernel
theorem dX6_person_89 : decode cX6_person 89 = .ok (.dup_x1, 1) := by decide +kernel
theorem dX6_person_90 : decode cX6_person 90 = .ok (.iconst 1, 1) := by decide +kernel
theorem dX6_person_91 : decode cX6_person 91 = .ok (.iadd, 1) := by decide +kernel
theorem dX6_person_92 : decode cX6_person 92 = .ok (.putfield 85, 3) := by decide +kernel
theorem dX6_person_95 : decode cX6_person 95 = .ok (.ireturn, 1) := by decide +kernel
theorem dX6_told_0 : decode cX6_told 0 = .ok (.iload_n 2, 1) := by decide +kernel
theorem dX6_told_1 : decode cX6_told 1 = .ok (.iconst 0, 1) := by decide +kernel
theorem dX6_told_2 : decode cX6_told 2 = .ok (.iconst 4, 1) := by decide +kernel
theorem dX6_told_3 : decode cX6_told 3 = .ok (.invokestatic 88, 3) := by decide +kernel
theorem dX6_told_6 : decode cX6_told 6 = .ok (.ifCond .eq 24, 3) := by decide +kernel
theorem dX6_told_9 : decode cX6_told 9 = .ok (.aload_n 0, 1) := by decide +kernel
theorem dX6_told_10 : decode cX6_told 10 = .ok (.iload_n 2, 1) := by decide +kernel
theorem dX6_told_11 : decode cX6_told 11 = .ok (.iload_n 1, 1) := by decide +kernel
theorem dX6_told_12 : decode cX6_told 12 = .ok (.invokevirtual 102, 3) := by decide +kernel
theorem dX6_told_15 : decode cX6_told 15 = .ok (.ifCond .eq 12, 3) := by decide +kernel
theorem dX6_told_18 : decode cX6_told 18 = .ok (.aload_n 0, 1) := by decide +kernel
theorem dX6_told_19 : decode cX6_told 19 = .ok (.iload_n 2, 1) := by decide +kernel
theorem dX6_told_20 : decode cX6_told 20 = .ok (.iload_n 1, 1) := by decide +kernel
theorem dX6_told_21 : decode cX6_told 21 = .ok (.invokevirtual 106, 3) := by decide +kernel
theorem dX6_told_24 : decode cX6_told 24 = .ok (.goto 5, 3) := by decide +kernel
theorem dX6_told_27 : decode cX6_told 27 = .ok (.bipush (-2), 2) := by decide +kernel
theorem dX6_told_29 : decode cX6_told 29 = .ok (.ireturn, 1) := by decide +kernel
theorem dX6_told_30 : decode cX6_told 30 = .ok (.aload_n 0, 1) := by decide +kernel
theorem dX6_told_31 : decode cX6_told 31 = .ok (.iload_n 1, 1) := by decide +kernel
theorem dX6_told_32 : decode cX6_told 32 = .ok (.invokevirtual 92, 3) := by decide +kernel
theorem dX6_told_35 : decode cX6_told 35 = .ok (.ifCond .ne 6, 3) := by decide +kernel
theorem dX6_told_38 : decode cX6_told 38 = .ok (.bipush (-2), 2) := by decide +kernel
theorem dX6_told_40 : decode cX6_told 40 = .ok (.ireturn, 1) := by decide +kernel
theorem dX6_told_41 : decode cX6_told 41 = .ok (.iload_n 2, 1) := by decide +kernel
theorem dX6_told_42 : decode cX6_told 42 = .ok (.tableswitch 73 5 9 #[34, 41, 47, 61, 67], 34) := by decide +kernel
theorem dX6_told_76 : decode cX6_told 76 = .ok (.aload_n 0, 1) := by decide +kernel
theorem dX6_told_77 : decode cX6_told 77 = .ok (.getfield 7, 3) := by decide +kernel
theorem dX6_told_80 : decode cX6_told 80 = .ok (.iload_n 1, 1) := by decide +kernel
theorem dX6_told_81 : decode cX6_told 81 = .ok (.iaload, 1) := by decide +kernel
theorem dX6_told_82 : decode cX6_told 82 = .ok (.ireturn, 1) := by decide +kernel
theorem dX6_told_83 : decode cX6_told 83 = .ok (.aload_n 0, 1) := by decide +kernel
theorem dX6_told_84 : decode cX6_told 84 = .ok (.iload_n 1, 1) := by decide +kernel
theorem dX6_told_85 : decode cX6_told 85 = .ok (.invokevirtual 110, 3) := by decide +kernel
theorem dX6_told_88 : decode cX6_told 88 = .ok (.ireturn, 1) := by decide +kernel
theorem dX6_told_89 : decode cX6_told 89 = .ok (.aload_n 0, 1) := by decide +kernel
theorem dX6_told_90 : decode cX6_told 90 = .ok (.iload_n 1, 1) := by decide +kernel
theorem dX6_told_91 : decode cX6_told 91 = .ok (.invokevirtual 114, 3) := by decide +kernel
theorem dX6_told_94 : decode cX6_told 94 = .ok (.ifCond .eq 7, 3) := by decide +kernel
theorem dX6_told_97 : decode cX6_told 97 = .ok (.iconst 1, 1) := by decide +kernel
theorem dX6_told_98 : decode cX6_told 98 = .ok (.goto 4, 3) := by decide +kernel
theorem dX6_told_101 : decode cX6_told 101 = .ok (.iconst 0, 1) := by decide +kernel
theorem dX6_told_102 : decode cX6_told 102 = .ok (.ireturn, 1) := by decide +kernel
theorem dX6_told_103 : decode cX6_told 103 = .ok (.aload_n 0, 1) := by decide +kernel
theorem dX6_told_104 : decode cX6_told 104 = .ok (.iload_n 1, 1) := by decide +kernel
theorem dX6_told_105 : decode cX6_told 105 = .ok (.invokevirtual 117, 3) := by decide +kernel
theorem dX6_told_108 : decode cX6_told 108 = .ok (.ireturn, 1) := by decide +kernel
theorem dX6_told_109 : decode cX6_told 109 = .ok (.aload_n 0, 1) := by decide +kernel
theorem dX6_told_110 : decode cX6_told 110 = .ok (.iload_n 1, 1) := by decide +kernel
theorem dX6_told_111 : decode cX6_told 111 = .ok (.invokevirtual 120, 3) := by decide +kernel
theorem dX6_told_114 : decode cX6_told 114 = .ok (.ireturn, 1) := by decide +kernel
theorem dX6_told_115 : decode cX6_told 115 = .ok (.bipush (-2), 2) := by decide +kernel
theorem dX6_told_117 : decode cX6_told 117 = .ok (.ireturn, 1) := by decide +kernel
theorem dX6_feed_0 : decode cX6_feed 0 = .ok (.iload_n 1, 1) := by decide +kernel
theorem dX6_feed_1 : decode cX6_feed 1 = .ok (.iconst 0, 1) := by decide +kernel
theorem dX6_feed_2 : decode cX6_feed 2 = .ok (.sipush 255, 3) := by decide +kernel
theorem dX6_feed_5 : decode cX6_feed 5 = .ok (.invokestatic 88, 3) := by decide +kernel
theorem dX6_feed_8 : decode cX6_feed 8 = .ok (.ifCond .ne 6, 3) := by decide +kernel
theorem dX6_feed_11 : decode cX6_feed 11 = .ok (.bipush (-2), 2) := by decide +kernel
theorem dX6_feed_13 : decode cX6_feed 13 = .ok (.ireturn, 1) := by decide +kernel
theorem dX6_feed_14 : decode cX6_feed 14 = .ok (.aload_n 0, 1) := by decide +kernel
theorem dX6_feed_15 : decode cX6_feed 15 = .ok (.getfield 123, 3) := by decide +kernel
theorem dX6_feed_18 : decode cX6_feed 18 = .ok (.sipush 160, 3) := by decide +kernel
theorem dX6_feed_21 : decode cX6_feed 21 = .ok (.if_icmp .ne 6, 3) := by decide +kernel
theorem dX6_feed_24 : decode cX6_feed 24 = .ok (.bipush (-4), 2) := by decide +kernel
theorem dX6_feed_26 : decode cX6_feed 26 = .ok (.ireturn, 1) := by decide +kernel
theorem dX6_feed_27 : decode cX6_feed 27 = .ok (.aload_n 0, 1) := by decide +kernel
theorem dX6_feed_28 : decode cX6_feed 28 = .ok (.getfield 22, 3) := by decide +kernel
theorem dX6_feed_31 : decode cX6_feed 31 = .ok (.aload_n 0, 1) := by decide +kernel
theorem dX6_feed_32 : decode cX6_feed 32 = .ok (.dup, 1) := by decide +kernel
theorem dX6_feed_33 : decode cX6_feed 33 = .ok (.getfield 123, 3) := by decide +kernel
theorem dX6_feed_36 : decode cX6_feed 36 = .ok (.dup_x1, 1) := by decide +kernel
theorem dX6_feed_37 : decode cX6_feed 37 = .ok (.iconst 1, 1) := by decide +kernel
theorem dX6_feed_38 : decode cX6_feed 38 = .ok (.iadd, 1) := by decide +kernel
theorem dX6_feed_39 : decode cX6_feed 39 = .ok (.putfield 123, 3) := by decide +kernel
theorem dX6_feed_42 : decode cX6_feed 42 = .ok (.iload_n 1, 1) := by decide +kernel
theorem dX6_feed_43 : decode cX6_feed 43 = .ok (.iastore, 1) := by decide +kernel
theorem dX6_feed_44 : decode cX6_feed 44 = .ok (.aload_n 0, 1) := by decide +kernel
theorem dX6_feed_45 : decode cX6_feed 45 = .ok (.getfield 123, 3) := by decide +kernel
theorem dX6_feed_48 : decode cX6_feed 48 = .ok (.ireturn, 1) := by decide +kernel
theorem dX6_isLetter_0 : decode cX6_isLetter 0 = .ok (.iload_n 0, 1) := by decide +kernel
theorem dX6_isLetter_1 : decode cX6_isLetter 1 = .ok (.bipush 97, 2) := by decide +kernel
theorem dX6_isLetter_3 : decode cX6_isLetter 3 = .ok (.if_icmp .lt 13, 3) := by decide +kernel
theorem dX6_isLetter_6 : decode cX6_isLetter 6 = .ok (.iload_n 0, 1) := by decide +kernel
theorem dX6_isLetter_7 : decode cX6_isLetter 7 = .ok (.bipush 122, 2) := by decide +kernel
theorem dX6_isLetter_9 : decode cX6_isLetter 9 = .ok (.if_icmp .gt 7, 3) := by decide +kernel
theorem dX6_isLetter_12 : decode cX6_isLetter 12 = .ok (.iconst 1, 1) := by decide +kernel
theorem dX6_isLetter_13 : decode cX6_isLetter 13 = .ok (.goto 4, 3) := by decide +kernel
theorem dX6_isLetter_16 : decode cX6_isLetter 16 = .ok (.iconst 0, 1) := by decide +kernel
theorem dX6_isLetter_17 : decode cX6_isLetter 17 = .ok (.ireturn, 1) := by decide +kernel
theorem dX6_isDigit_0 : decode cX6_isDigit 0 = .ok (.iload_n 0, 1) := by decide +kernel
theorem dX6_isDigit_1 : decode cX6_isDigit 1 = .ok (.bipush 48, 2) := by decide +kernel
theorem dX6_isDigit_3 : decode cX6_isDigit 3 = .ok (.if_icmp .lt 13, 3) := by decide +kernel
theorem dX6_isDigit_6 : decode cX6_isDigit 6 = .ok (.iload_n 0, 1) := by decide +kernel
theorem dX6_isDigit_7 : decode cX6_isDigit 7 = .ok (.bipush 57, 2) := by decide +kernel
theorem dX6_isDigit_9 : decode cX6_isDigit 9 = .ok (.if_icmp .gt 7, 3) := by decide +kernel
theorem dX6_isDigit_12 : decode cX6_isDigit 12 = .ok (.iconst 1, 1) := by decide +kernel
theorem dX6_isDigit_13 : decode cX6_isDigit 13 = .ok (.goto 4, 3) := by decide +kernel
theorem dX6_isDigit_16 : decode cX6_isDigit 16 = .ok (.iconst 0, 1) := by decide +kernel
theorem dX6_isDigit_17 : decode cX6_isDigit 17 = .ok (.ireturn, 1) := by decide +kernel
theorem dX6_isSign_0 : decode cX6_isSign 0 = .ok (.iload_n 0, 1) := by decide +kernel
theorem dX6_isSign_1 : decode cX6_isSign 1 = .ok (.tableswitch 105 40 61 #[103, 103, 103, 103, 105, 103, 105, 105, 105, 105, 105, 105, 105, 105, 105, 105, 105, 105, 105, 103, 103, 103], 103) := by decide +kernel
theorem dX6_isSign_104 : decode cX6_isSign 104 = .ok (.iconst 1, 1) := by decide +kernel
theorem dX6_isSign_105 : decode cX6_isSign 105 = .ok (.ireturn, 1) := by decide +kernel
theorem dX6_isSign_106 : decode cX6_isSign 106 = .ok (.iconst 0, 1) := by decide +kernel
theorem dX6_isSign_107 : decode cX6_isSign 107 = .ok (.ireturn, 1) := by decide +kernel
theorem dX6_named_0 : decode cX6_named 0 = .ok (.aload_n 0, 1) := by decide +kernel
theorem dX6_named_1 : decode cX6_named 1 = .ok (.getfield 126, 3) := by decide +kernel
theorem dX6_named_4 : decode cX6_named 4 = .ok (.lookupswitch 72 #[(2968, 66), (5863, 68), (13694, 60), (16922, 64), (267347, 70), (212302449, 62)], 60) := by decide +kernel
theorem dX6_named_64 : decode cX6_named 64 = .ok (.iconst 0, 1) := by decide +kernel
theorem dX6_named_65 : decode cX6_named 65 = .ok (.ireturn, 1) := by decide +kernel
theorem dX6_named_66 : decode cX6_named 66 = .ok (.iconst 1, 1) := by decide +kernel
theorem dX6_named_67 : decode cX6_named 67 = .ok (.ireturn, 1) := by decide +kernel
theorem dX6_named_68 : decode cX6_named 68 = .ok (.iconst 2, 1) := by decide +kernel
theorem dX6_named_69 : decode cX6_named 69 = .ok (.ireturn, 1) := by decide +kernel
theorem dX6_named_70 : decode cX6_named 70 = .ok (.iconst 3, 1) := by decide +kernel
theorem dX6_named_71 : decode cX6_named 71 = .ok (.ireturn, 1) := by decide +kernel
theorem dX6_named_72 : decode cX6_named 72 = .ok (.iconst 4, 1) := by decide +kernel
theorem dX6_named_73 : decode cX6_named 73 = .ok (.ireturn, 1) := by decide +kernel
theorem dX6_named_74 : decode cX6_named 74 = .ok (.iconst 5, 1) := by decide +kernel
theorem dX6_named_75 : decode cX6_named 75 = .ok (.ireturn, 1) := by decide +kernel
theorem dX6_named_76 : decode cX6_named 76 = .ok (.iconst (-1), 1) := by decide +kernel
theorem dX6_named_77 : decode cX6_named 77 = .ok (.ireturn, 1) := by decide +kernel
theorem dX6_isKey_0 : decode cX6_isKey 0 = .ok (.aload_n 0, 1) := by decide +kernel
theorem dX6_isKey_1 : decode cX6_isKey 1 = .ok (.getfield 126, 3) := by decide +kernel
theorem dX6_isKey_4 : decode cX6_isKey 4 = .ok (.lookupswitch 62 #[(423, 60), (1111, 60), (10631, 60), (369757, 60), (370000, 60), (1841662, 60)], 60) := by decide +kernel
theorem dX6_isKey_64 : decode cX6_isKey 64 = .ok (.iconst 1, 1) := by decide +kernel
theorem dX6_isKey_65 : decode cX6_isKey 65 = .ok (.ireturn, 1) := by decide +kernel
theorem dX6_isKey_66 : decode cX6_isKey 66 = .ok (.iconst 0, 1) := by decide +kernel
theorem dX6_isKey_67 : decode cX6_isKey 67 = .ok (.ireturn, 1) := by decide +kernel
theorem dX6_next_0 : decode cX6_next 0 = .ok (.aload_n 0, 1) := by decide +kernel
theorem dX6_next_1 : decode cX6_next 1 = .ok (.aload_n 0, 1) := by decide +kernel
theorem dX6_next_2 : decode cX6_next 2 = .ok (.getfield 129, 3) := by decide +kernel
theorem dX6_next_5 : decode cX6_next 5 = .ok (.putfield 132, 3) := by decide +kernel
theorem dX6_next_8 : decode cX6_next 8 = .ok (.aload_n 0, 1) := by decide +kernel
theorem dX6_next_9 : decode cX6_next 9 = .ok (.getfield 132, 3) := by decide +kernel
theorem dX6_next_12 : decode cX6_next 12 = .ok (.aload_n 0, 1) := by decide +kernel
theorem dX6_next_13 : decode cX6_next 13 = .ok (.getfield 123, 3) := by decide +kernel
theorem dX6_next_16 : decode cX6_next 16 = .ok (.if_icmp .ge 44, 3) := by decide +kernel
theorem dX6_next_19 : decode cX6_next 19 = .ok (.aload_n 0, 1) := by decide +kernel
theorem dX6_next_20 : decode cX6_next 20 = .ok (.getfield 22, 3) := by decide +kernel
theorem dX6_next_23 : decode cX6_next 23 = .ok (.aload_n 0, 1) := by decide +kernel
theorem dX6_next_24 : decode cX6_next 24 = .ok (.getfield 132, 3) := by decide +kernel
theorem dX6_next_27 : decode cX6_next 27 = .ok (.iaload, 1) := by decide +kernel
theorem dX6_next_28 : decode cX6_next 28 = .ok (.bipush 32, 2) := by decide +kernel
theorem dX6_next_30 : decode cX6_next 30 = .ok (.if_icmp .eq 17, 3) := by decide +kernel
theorem dX6_next_33 : decode cX6_next 33 = .ok (.aload_n 0, 1) := by decide +kernel
theorem dX6_next_34 : decode cX6_next 34 = .ok (.getfield 22, 3) := by decide +kernel
theorem dX6_next_37 : decode cX6_next 37 = .ok (.aload_n 0, 1) := by decide +kernel
theorem dX6_next_38 : decode cX6_next 38 = .ok (.getfield 132, 3) := by decide +kernel
theorem dX6_next_41 : decode cX6_next 41 = .ok (.iaload, 1) := by decide +kernel
theorem dX6_next_42 : decode cX6_next 42 = .ok (.bipush 10, 2) := by decide +kernel
theorem dX6_next_44 : decode cX6_next 44 = .ok (.if_icmp .ne 16, 3) := by decide +kernel
theorem dX6_next_47 : decode cX6_next 47 = .ok (.aload_n 0, 1) := by decide +kernel
theorem dX6_next_48 : decode cX6_next 48 = .ok (.dup, 1) := by decide +kernel
theorem dX6_next_49 : decode cX6_next 49 = .ok (.getfield 132, 3) := by decide +kernel
theorem dX6_next_52 : decode cX6_next 52 = .ok (.iconst 1, 1) := by decide +kernel
theorem dX6_next_53 : decode cX6_next 53 = .ok (.iadd, 1) := by decide +kernel
theorem dX6_next_54 : decode cX6_next 54 = .ok (.putfield 132, 3) := by decide +kernel
theorem dX6_next_57 : decode cX6_next 57 = .ok (.goto (-49), 3) := by decide +kernel
theorem dX6_next_60 : decode cX6_next 60 = .ok (.aload_n 0, 1) := by decide +kernel
theorem dX6_next_61 : decode cX6_next 61 = .ok (.aload_n 0, 1) := by decide +kernel
theorem dX6_next_62 : decode cX6_next 62 = .ok (.getfield 132, 3) := by decide +kernel
theorem dX6_next_65 : decode cX6_next 65 = .ok (.putfield 129, 3) := by decide +kernel
theorem dX6_next_68 : decode cX6_next 68 = .ok (.aload_n 0, 1) := by decide +kernel
theorem dX6_next_69 : decode cX6_next 69 = .ok (.iconst 0, 1) := by decide +kernel
theorem dX6_next_70 : decode cX6_next 70 = .ok (.putfield 126, 3) := by decide +kernel
theorem dX6_next_73 : decode cX6_next 73 = .ok (.aload_n 0, 1) := by decide +kernel
theorem dX6_next_74 : decode cX6_next 74 = .ok (.getfield 132, 3) := by decide +kernel
theorem dX6_next_77 : decode cX6_next 77 = .ok (.aload_n 0, 1) := by decide +kernel
theorem dX6_next_78 : decode cX6_next 78 = .ok (.getfield 123, 3) := by decide +kernel
theorem dX6_next_81 : decode cX6_next 81 = .ok (.if_icmp .ne 10, 3) := by decide +kernel
theorem dX6_next_84 : decode cX6_next 84 = .ok (.aload_n 0, 1) := by decide +kernel
theorem dX6_next_85 : decode cX6_next 85 = .ok (.bipush 101, 2) := by decide +kernel
theorem dX6_next_87 : decode cX6_next 87 = .ok (.putfield 135, 3) := by decide +kernel
theorem dX6_next_90 : decode cX6_next 90 = .ok (.return_, 1) := by decide +kernel
theorem dX6_next_91 : decode cX6_next 91 = .ok (.aload_n 0, 1) := by decide +kernel
theorem dX6_next_92 : decode cX6_next 92 = .ok (.getfield 22, 3) := by decide +kernel
theorem dX6_next_95 : decode cX6_next 95 = .ok (.aload_n 0, 1) := by decide +kernel
theorem dX6_next_96 : decode cX6_next 96 = .ok (.getfield 132, 3) := by decide +kernel
theorem dX6_next_99 : decode cX6_next 99 = .ok (.iaload, 1) := by decide +kernel
theorem dX6_next_100 : decode cX6_next 100 = .ok (.istore_n 1, 1) := by decide +kernel
theorem dX6_next_101 : decode cX6_next 101 = .ok (.iload_n 1, 1) := by decide +kernel
theorem dX6_next_102 : decode cX6_next 102 = .ok (.invokestatic 138, 3) := by decide +kernel
theorem dX6_next_105 : decode cX6_next 105 = .ok (.ifCond .eq 128, 3) := by decide +kernel
theorem dX6_next_108 : decode cX6_next 108 = .ok (.aload_n 0, 1) := by decide +kernel
theorem dX6_next_109 : decode cX6_next 109 = .ok (.getfield 129, 3) := by decide +kernel
theorem dX6_next_112 : decode cX6_next 112 = .ok (.aload_n 0, 1) := by decide +kernel
theorem dX6_next_113 : decode cX6_next 113 = .ok (.getfield 123, 3) := by decide +kernel
theorem dX6_next_116 : decode cX6_next 116 = .ok (.if_icmp .ge 69, 3) := by decide +kernel
theorem dX6_next_119 : decode cX6_next 119 = .ok (.aload_n 0, 1) := by decide +kernel
theorem dX6_next_120 : decode cX6_next 120 = .ok (.getfield 22, 3) := by decide +kernel
theorem dX6_next_123 : decode cX6_next 123 = .ok (.aload_n 0, 1) := by decide +kernel
theorem dX6_next_124 : decode cX6_next 124 = .ok (.getfield 129, 3) := by decide +kernel
theorem dX6_next_127 : decode cX6_next 127 = .ok (.iaload, 1) := by decide +kernel
theorem dX6_next_128 : decode cX6_next 128 = .ok (.invokestatic 138, 3) := by decide +kernel
theorem dX6_next_131 : decode cX6_next 131 = .ok (.ifCond .eq 54, 3) := by decide +kernel
theorem dX6_next_134 : decode cX6_next 134 = .ok (.aload_n 0, 1) := by decide +kernel
theorem dX6_next_135 : decode cX6_next 135 = .ok (.getfield 129, 3) := by decide +kernel
theorem dX6_next_138 : decode cX6_next 138 = .ok (.aload_n 0, 1) := by decide +kernel
theorem dX6_next_139 : decode cX6_next 139 = .ok (.getfield 132, 3) := by decide +kernel
theorem dX6_next_142 : decode cX6_next 142 = .ok (.isub, 1) := by decide +kernel
theorem dX6_next_143 : decode cX6_next 143 = .ok (.bipush 6, 2) := by decide +kernel
theorem dX6_next_145 : decode cX6_next 145 = .ok (.if_icmp .ge 27, 3) := by decide +kernel
theorem dX6_next_148 : decode cX6_next 148 = .ok (.aload_n 0, 1) := by decide +kernel
theorem dX6_next_149 : decode cX6_next 149 = .ok (.bipush 27, 2) := by decide +kernel
theorem dX6_next_151 : decode cX6_next 151 = .ok (.aload_n 0, 1) := by decide +kernel
theorem dX6_next_152 : decode cX6_next 152 = .ok (.getfield 126, 3) := by decide +kernel
theorem dX6_next_155 : decode cX6_next 155 = .ok (.imul, 1) := by decide +kernel
theorem dX6_next_156 : decode cX6_next 156 = .ok (.aload_n 0, 1) := by decide +kernel
theorem dX6_next_157 : decode cX6_next 157 = .ok (.getfield 22, 3) := by decide +kernel
theorem dX6_next_160 : decode cX6_next 160 = .ok (.aload_n 0, 1) := by decide +kernel
theorem dX6_next_161 : decode cX6_next 161 = .ok (.getfield 129, 3) := by decide +kernel
theorem dX6_next_164 : decode cX6_next 164 = .ok (.iaload, 1) := by decide +kernel
theorem dX6_next_165 : decode cX6_next 165 = .ok (.iadd, 1) := by decide +kernel
theorem dX6_next_166 : decode cX6_next 166 = .ok (.bipush 96, 2) := by decide +kernel
theorem dX6_next_168 : decode cX6_next 168 = .ok (.isub, 1) := by decide +kernel
theorem dX6_next_169 : decode cX6_next 169 = .ok (.putfield 126, 3) := by decide +kernel
theorem dX6_next_172 : decode cX6_next 172 = .ok (.aload_n 0, 1) := by decide +kernel
theorem dX6_next_173 : decode cX6_next 173 = .ok (.dup, 1) := by decide +kernel
theorem dX6_next_174 : decode cX6_next 174 = .ok (.getfield 129, 3) := by decide +kernel
theorem dX6_next_177 : decode cX6_next 177 = .ok (.iconst 1, 1) := by decide +kernel
theorem dX6_next_178 : decode cX6_next 178 = .ok (.iadd, 1) := by decide +kernel
theorem dX6_next_179 : decode cX6_next 179 = .ok (.putfield 129, 3) := by decide +kernel
theorem dX6_next_182 : decode cX6_next 182 = .ok (.goto (-74), 3) := by decide +kernel
theorem dX6_next_185 : decode cX6_next 185 = .ok (.aload_n 0, 1) := by decide +kernel
theorem dX6_next_186 : decode cX6_next 186 = .ok (.getfield 129, 3) := by decide +kernel
theorem dX6_next_189 : decode cX6_next 189 = .ok (.aload_n 0, 1) := by decide +kernel
theorem dX6_next_190 : decode cX6_next 190 = .ok (.getfield 132, 3) := by decide +kernel
theorem dX6_next_193 : decode cX6_next 193 = .ok (.isub, 1) := by decide +kernel
theorem dX6_next_194 : decode cX6_next 194 = .ok (.bipush 6, 2) := by decide +kernel
theorem dX6_next_196 : decode cX6_next 196 = .ok (.if_icmp .le 8, 3) := by decide +kernel
theorem dX6_next_199 : decode cX6_next 199 = .ok (.aload_n 0, 1) := by decide +kernel
theorem dX6_next_200 : decode cX6_next 200 = .ok (.iconst (-1), 1) := by decide +kernel
theorem dX6_next_201 : decode cX6_next 201 = .ok (.putfield 126, 3) := by decide +kernel
theorem dX6_next_204 : decode cX6_next 204 = .ok (.aload_n 0, 1) := by decide +kernel
theorem dX6_next_205 : decode cX6_next 205 = .ok (.aload_n 0, 1) := by decide +kernel
theorem dX6_next_206 : decode cX6_next 206 = .ok (.invokevirtual 141, 3) := by decide +kernel
theorem dX6_next_209 : decode cX6_next 209 = .ok (.iconst (-1), 1) := by decide +kernel
theorem dX6_next_210 : decode cX6_next 210 = .ok (.if_icmp .ne 15, 3) := by decide +kernel
theorem dX6_next_213 : decode cX6_next 213 = .ok (.aload_n 0, 1) := by decide +kernel
theorem dX6_next_214 : decode cX6_next 214 = .ok (.invokevirtual 145, 3) := by decide +kernel
theorem dX6_next_217 : decode cX6_next 217 = .ok (.ifCond .ne 8, 3) := by decide +kernel
theorem dX6_next_220 : decode cX6_next 220 = .ok (.bipush 120, 2) := by decide +kernel
theorem dX6_next_222 : decode cX6_next 222 = .ok (.goto 5, 3) := by decide +kernel
theorem dX6_next_225 : decode cX6_next 225 = .ok (.bipush 119, 2) := by decide +kernel
theorem dX6_next_227 : decode cX6_next 227 = .ok (.putfield 135, 3) := by decide +kernel
theorem dX6_next_230 : decode cX6_next 230 = .ok (.goto 145, 3) := by decide +kernel
theorem dX6_next_233 : decode cX6_next 233 = .ok (.iload_n 1, 1) := by decide +kernel
theorem dX6_next_234 : decode cX6_next 234 = .ok (.invokestatic 149, 3) := by decide +kernel
theorem dX6_next_237 : decode cX6_next 237 = .ok (.ifCond .eq 111, 3) := by decide +kernel
theorem dX6_next_240 : decode cX6_next 240 = .ok (.aload_n 0, 1) := by decide +kernel
theorem dX6_next_241 : decode cX6_next 241 = .ok (.iconst 0, 1) := by decide +kernel
theorem dX6_next_242 : decode cX6_next 242 = .ok (.putfield 152, 3) := by decide +kernel
theorem dX6_next_245 : decode cX6_next 245 = .ok (.aload_n 0, 1) := by decide +kernel
theorem dX6_next_246 : decode cX6_next 246 = .ok (.getfield 129, 3) := by decide +kernel
theorem dX6_next_249 : decode cX6_next 249 = .ok (.aload_n 0, 1) := by decide +kernel
theorem dX6_next_250 : decode cX6_next 250 = .ok (.getfield 123, 3) := by decide +kernel
theorem dX6_next_253 : decode cX6_next 253 = .ok (.if_icmp .ge 68, 3) := by decide +kernel
theorem dX6_next_256 : decode cX6_next 256 = .ok (.aload_n 0, 1) := by decide +kernel
theorem dX6_next_257 : decode cX6_next 257 = .ok (.getfield 22, 3) := by decide +kernel
theorem dX6_next_260 : decode cX6_next 260 = .ok (.aload_n 0, 1) := by decide +kernel
theorem dX6_next_261 : decode cX6_next 261 = .ok (.getfield 129, 3) := by decide +kernel
theorem dX6_next_264 : decode cX6_next 264 = .ok (.iaload, 1) := by decide +kernel
theorem dX6_next_265 : decode cX6_next 265 = .ok (.invokestatic 149, 3) := by decide +kernel
theorem dX6_next_268 : decode cX6_next 268 = .ok (.ifCond .eq 53, 3) := by decide +kernel
theorem dX6_next_271 : decode cX6_next 271 = .ok (.aload_n 0, 1) := by decide +kernel
theorem dX6_next_272 : decode cX6_next 272 = .ok (.getfield 129, 3) := by decide +kernel
theorem dX6_next_275 : decode cX6_next 275 = .ok (.aload_n 0, 1) := by decide +kernel
theorem dX6_next_276 : decode cX6_next 276 = .ok (.getfield 132, 3) := by decide +kernel
theorem dX6_next_279 : decode cX6_next 279 = .ok (.isub, 1) := by decide +kernel
theorem dX6_next_280 : decode cX6_next 280 = .ok (.iconst 4, 1) := by decide +kernel
theorem dX6_next_281 : decode cX6_next 281 = .ok (.if_icmp .ge 27, 3) := by decide +kernel
theorem dX6_next_284 : decode cX6_next 284 = .ok (.aload_n 0, 1) := by decide +kernel
theorem dX6_next_285 : decode cX6_next 285 = .ok (.bipush 10, 2) := by decide +kernel
theorem dX6_next_287 : decode cX6_next 287 = .ok (.aload_n 0, 1) := by decide +kernel
theorem dX6_next_288 : decode cX6_next 288 = .ok (.getfield 152, 3) := by decide +kernel
theorem dX6_next_291 : decode cX6_next 291 = .ok (.imul, 1) := by decide +kernel
theorem dX6_next_292 : decode cX6_next 292 = .ok (.aload_n 0, 1) := by decide +kernel
theorem dX6_next_293 : decode cX6_next 293 = .ok (.getfield 22, 3) := by decide +kernel
theorem dX6_next_296 : decode cX6_next 296 = .ok (.aload_n 0, 1) := by decide +kernel
theorem dX6_next_297 : decode cX6_next 297 = .ok (.getfield 129, 3) := by decide +kernel
theorem dX6_next_300 : decode cX6_next 300 = .ok (.iaload, 1) := by decide +kernel
theorem dX6_next_301 : decode cX6_next 301 = .ok (.iadd, 1) := by decide +kernel
theorem dX6_next_302 : decode cX6_next 302 = .ok (.bipush 48, 2) := by decide +kernel
theorem dX6_next_304 : decode cX6_next 304 = .ok (.isub, 1) := by decide +kernel
theorem dX6_next_305 : decode cX6_next 305 = .ok (.putfield 152, 3) := by decide +kernel
theorem dX6_next_308 : decode cX6_next 308 = .ok (.aload_n 0, 1) := by decide +kernel
theorem dX6_next_309 : decode cX6_next 309 = .ok (.dup, 1) := by decide +kernel
theorem dX6_next_310 : decode cX6_next 310 = .ok (.getfield 129, 3) := by decide +kernel
theorem dX6_next_313 : decode cX6_next 313 = .ok (.iconst 1, 1) := by decide +kernel
theorem dX6_next_314 : decode cX6_next 314 = .ok (.iadd, 1) := by decide +kernel
theorem dX6_next_315 : decode cX6_next 315 = .ok (.putfield 129, 3) := by decide +kernel
theorem dX6_next_318 : decode cX6_next 318 = .ok (.goto (-73), 3) := by decide +kernel
theorem dX6_next_321 : decode cX6_next 321 = .ok (.aload_n 0, 1) := by decide +kernel
theorem dX6_next_322 : decode cX6_next 322 = .ok (.aload_n 0, 1) := by decide +kernel
theorem dX6_next_323 : decode cX6_next 323 = .ok (.getfield 129, 3) := by decide +kernel
theorem dX6_next_326 : decode cX6_next 326 = .ok (.aload_n 0, 1) := by decide +kernel
theorem dX6_next_327 : decode cX6_next 327 = .ok (.getfield 132, 3) := by decide +kernel
theorem dX6_next_330 : decode cX6_next 330 = .ok (.isub, 1) := by decide +kernel
theorem dX6_next_331 : decode cX6_next 331 = .ok (.iconst 4, 1) := by decide +kernel
theorem dX6_next_332 : decode cX6_next 332 = .ok (.if_icmp .le 8, 3) := by decide +kernel
theorem dX6_next_335 : decode cX6_next 335 = .ok (.bipush 120, 2) := by decide +kernel
theorem dX6_next_337 : decode cX6_next 337 = .ok (.goto 5, 3) := by decide +kernel
theorem dX6_next_340 : decode cX6_next 340 = .ok (.bipush 48, 2) := by decide +kernel
theorem dX6_next_342 : decode cX6_next 342 = .ok (.putfield 135, 3) := by decide +kernel
theorem dX6_next_345 : decode cX6_next 345 = .ok (.goto 30, 3) := by decide +kernel
theorem dX6_next_348 : decode cX6_next 348 = .ok (.aload_n 0, 1) := by decide +kernel
theorem dX6_next_349 : decode cX6_next 349 = .ok (.dup, 1) := by decide +kernel
theorem dX6_next_350 : decode cX6_next 350 = .ok (.getfield 129, 3) := by decide +kernel
theorem dX6_next_353 : decode cX6_next 353 = .ok (.iconst 1, 1) := by decide +kernel
theorem dX6_next_354 : decode cX6_next 354 = .ok (.iadd, 1) := by decide +kernel
theorem dX6_next_355 : decode cX6_next 355 = .ok (.putfield 129, 3) := by decide +kernel
theorem dX6_next_358 : decode cX6_next 358 = .ok (.aload_n 0, 1) := by decide +kernel
theorem dX6_next_359 : decode cX6_next 359 = .ok (.iload_n 1, 1) := by decide +kernel
theorem dX6_next_360 : decode cX6_next 360 = .ok (.invokestatic 155, 3) := by decide +kernel
theorem dX6_next_363 : decode cX6_next 363 = .ok (.ifCond .eq 7, 3) := by decide +kernel
theorem dX6_next_366 : decode cX6_next 366 = .ok (.iload_n 1, 1) := by decide +kernel
theorem dX6_next_367 : decode cX6_next 367 = .ok (.goto 5, 3) := by decide +kernel
theorem dX6_next_370 : decode cX6_next 370 = .ok (.bipush 120, 2) := by decide +kernel
theorem dX6_next_372 : decode cX6_next 372 = .ok (.putfield 135, 3) := by decide +kernel
theorem dX6_next_375 : decode cX6_next 375 = .ok (.return_, 1) := by decide +kernel
theorem dX6_takes_0 : decode cX6_takes 0 = .ok (.aload_n 0, 1) := by decide +kernel
theorem dX6_takes_1 : decode cX6_takes 1 = .ok (.getfield 135, 3) := by decide +kernel
theorem dX6_takes_4 : decode cX6_takes 4 = .ok (.bipush 119, 2) := by decide +kernel
theorem dX6_takes_6 : decode cX6_takes 6 = .ok (.if_icmp .ne 11, 3) := by decide +kernel
theorem dX6_takes_9 : decode cX6_takes 9 = .ok (.aload_n 0, 1) := by decide +kernel
theorem dX6_takes_10 : decode cX6_takes 10 = .ok (.getfield 126, 3) := by decide +kernel
theorem dX6_takes_13 : decode cX6_takes 13 = .ok (.iload_n 1, 1) := by decide +kernel
theorem dX6_takes_14 : decode cX6_takes 14 = .ok (.if_icmp .eq 5, 3) := by decide +kernel
theorem dX6_takes_17 : decode cX6_takes 17 = .ok (.iconst 0, 1) := by decide +kernel
theorem dX6_takes_18 : decode cX6_takes 18 = .ok (.ireturn, 1) := by decide +kernel
theorem dX6_takes_19 : decode cX6_takes 19 = .ok (.aload_n 0, 1) := by decide +kernel
theorem dX6_takes_20 : decode cX6_takes 20 = .ok (.invokevirtual 158, 3) := by decide +kernel
theorem dX6_takes_23 : decode cX6_takes 23 = .ok (.iconst 1, 1) := by decide +kernel
theorem dX6_takes_24 : decode cX6_takes 24 = .ok (.ireturn, 1) := by decide +kernel
theorem dX6_codes_0 : decode cX6_codes 0 = .ok (.aload_n 0, 1) := by decide +kernel
theorem dX6_codes_1 : decode cX6_codes 1 = .ok (.getfield 31, 3) := by decide +kernel
theorem dX6_codes_4 : decode cX6_codes 4 = .ok (.aload_n 0, 1) := by decide +kernel
theorem dX6_codes_5 : decode cX6_codes 5 = .ok (.dup, 1) := by decide +kernel
theorem dX6_codes_6 : decode cX6_codes 6 = .ok (.getfield 161, 3) := by decide +kernel
theorem dX6_codes_9 : decode cX6_codes 9 = .ok (.dup_x1, 1) := by decide +kernel
theorem dX6_codes_10 : decode cX6_codes 10 = .ok (.iconst 1, 1) := by decide +kernel
theorem dX6_codes_11 : decode cX6_codes 11 = .ok (.iadd, 1) := by decide +kernel
theorem dX6_codes_12 : decode cX6_codes 12 = .ok (.putfield 161, 3) := by decide +kernel
theorem dX6_codes_15 : decode cX6_codes 15 = .ok (.iload_n 1, 1) := by decide +kernel
theorem dX6_codes_16 : decode cX6_codes 16 = .ok (.iastore, 1) := by decide +kernel
theorem dX6_codes_17 : decode cX6_codes 17 = .ok (.return_, 1) := by decide +kernel
theorem dX6_rank_0 : decode cX6_rank 0 = .ok (.iload_n 0, 1) := by decide +kernel
theorem dX6_rank_1 : decode cX6_rank 1 = .ok (.tableswitch 67 6 14 #[59, 59, 61, 57, 57, 53, 51, 55, 64], 51) := by decide +kernel
theorem dX6_rank_52 : decode cX6_rank 52 = .ok (.iconst 1, 1) := by decide +kernel
theorem dX6_rank_53 : decode cX6_rank 53 = .ok (.ireturn, 1) := by decide +kernel
theorem dX6_rank_54 : decode cX6_rank 54 = .ok (.iconst 2, 1) := by decide +kernel
theorem dX6_rank_55 : decode cX6_rank 55 = .ok (.ireturn, 1) := by decide +kernel
theorem dX6_rank_56 : decode cX6_rank 56 = .ok (.iconst 3, 1) := by decide +kernel
theorem dX6_rank_57 : decode cX6_rank 57 = .ok (.ireturn, 1) := by decide +kernel
theorem dX6_rank_58 : decode cX6_rank 58 = .ok (.iconst 4, 1) := by decide +kernel
theorem dX6_rank_59 : decode cX6_rank 59 = .ok (.ireturn, 1) := by decide +kernel
theorem dX6_rank_60 : decode cX6_rank 60 = .ok (.iconst 5, 1) := by decide +kernel
theorem dX6_rank_61 : decode cX6_rank 61 = .ok (.ireturn, 1) := by decide +kernel
theorem dX6_rank_62 : decode cX6_rank 62 = .ok (.bipush 6, 2) := by decide +kernel
theorem dX6_rank_64 : decode cX6_rank 64 = .ok (.ireturn, 1) := by decide +kernel
theorem dX6_rank_65 : decode cX6_rank 65 = .ok (.bipush 7, 2) := by decide +kernel
theorem dX6_rank_67 : decode cX6_rank 67 = .ok (.ireturn, 1) := by decide +kernel
theorem dX6_rank_68 : decode cX6_rank 68 = .ok (.iconst 0, 1) := by decide +kernel
theorem dX6_rank_69 : decode cX6_rank 69 = .ok (.ireturn, 1) := by decide +kernel
theorem dX6_lays_0 : decode cX6_lays 0 = .ok (.aload_n 0, 1) := by decide +kernel
theorem dX6_lays_1 : decode cX6_lays 1 = .ok (.getfield 164, 3) := by decide +kernel
theorem dX6_lays_4 : decode cX6_lays 4 = .ok (.ifCond .le 85, 3) := by decide +kernel
theorem dX6_lays_7 : decode cX6_lays 7 = .ok (.aload_n 0, 1) := by decide +kernel
theorem dX6_lays_8 : decode cX6_lays 8 = .ok (.getfield 34, 3) := by decide +kernel
theorem dX6_lays_11 : decode cX6_lays 11 = .ok (.aload_n 0, 1) := by decide +kernel
theorem dX6_lays_12 : decode cX6_lays 12 = .ok (.getfield 164, 3) := by decide +kernel
theorem dX6_lays_15 : decode cX6_lays 15 = .ok (.iconst 1, 1) := by decide +kernel
theorem dX6_lays_16 : decode cX6_lays 16 = .ok (.isub, 1) := by decide +kernel
theorem dX6_lays_17 : decode cX6_lays 17 = .ok (.iaload, 1) := by decide +kernel
theorem dX6_lays_18 : decode cX6_lays 18 = .ok (.invokestatic 167, 3) := by decide +kernel
theorem dX6_lays_21 : decode cX6_lays 21 = .ok (.iload_n 1, 1) := by decide +kernel
theorem dX6_lays_22 : decode cX6_lays 22 = .ok (.if_icmp .lt 67, 3) := by decide +kernel
theorem dX6_lays_25 : decode cX6_lays 25 = .ok (.aload_n 0, 1) := by decide +kernel
theorem dX6_lays_26 : decode cX6_lays 26 = .ok (.dup, 1) := by decide +kernel
theorem dX6_lays_27 : decode cX6_lays 27 = .ok (.getfield 164, 3) := by decide +kernel
theorem dX6_lays_30 : decode cX6_lays 30 = .ok (.iconst 1, 1) := by decide +kernel
theorem dX6_lays_31 : decode cX6_lays 31 = .ok (.isub, 1) := by decide +kernel
theorem dX6_lays_32 : decode cX6_lays 32 = .ok (.putfield 164, 3) := by decide +kernel
theorem dX6_lays_35 : decode cX6_lays 35 = .ok (.aload_n 0, 1) := by decide +kernel
theorem dX6_lays_36 : decode cX6_lays 36 = .ok (.aload_n 0, 1) := by decide +kernel
theorem dX6_lays_37 : decode cX6_lays 37 = .ok (.getfield 34, 3) := by decide +kernel
theorem dX6_lays_40 : decode cX6_lays 40 = .ok (.aload_n 0, 1) := by decide +kernel
theorem dX6_lays_41 : decode cX6_lays 41 = .ok (.getfield 164, 3) := by decide +kernel
theorem dX6_lays_44 : decode cX6_lays 44 = .ok (.iaload, 1) := by decide +kernel
theorem dX6_lays_45 : decode cX6_lays 45 = .ok (.invokevirtual 77, 3) := by decide +kernel
theorem dX6_lays_48 : decode cX6_lays 48 = .ok (.aload_n 0, 1) := by decide +kernel
theorem dX6_lays_49 : decode cX6_lays 49 = .ok (.getfield 34, 3) := by decide +kernel
theorem dX6_lays_52 : decode cX6_lays 52 = .ok (.aload_n 0, 1) := by decide +kernel
theorem dX6_lays_53 : decode cX6_lays 53 = .ok (.getfield 164, 3) := by decide +kernel
theorem dX6_lays_56 : decode cX6_lays 56 = .ok (.iaload, 1) := by decide +kernel
theorem dX6_lays_57 : decode cX6_lays 57 = .ok (.bipush 13, 2) := by decide +kernel
theorem dX6_lays_59 : decode cX6_lays 59 = .ok (.if_icmp .eq 17, 3) := by decide +kernel
theorem dX6_lays_62 : decode cX6_lays 62 = .ok (.aload_n 0, 1) := by decide +kernel
theorem dX6_lays_63 : decode cX6_lays 63 = .ok (.getfield 34, 3) := by decide +kernel
theorem dX6_lays_66 : decode cX6_lays 66 = .ok (.aload_n 0, 1) := by decide +kernel
theorem dX6_lays_67 : decode cX6_lays 67 = .ok (.getfield 164, 3) := by decide +kernel
theorem dX6_lays_70 : decode cX6_lays 70 = .ok (.iaload, 1) := by decide +kernel
theorem dX6_lays_71 : decode cX6_lays 71 = .ok (.bipush 14, 2) := by decide +kernel
theorem dX6_lays_73 : decode cX6_lays 73 = .ok (.if_icmp .ne (-73), 3) := by decide +kernel
theorem dX6_lays_76 : decode cX6_lays 76 = .ok (.aload_n 0, 1) := by decide +kernel
theorem dX6_lays_77 : decode cX6_lays 77 = .ok (.dup, 1) := by decide +kernel
theorem dX6_lays_78 : decode cX6_lays 78 = .ok (.getfield 170, 3) := by decide +kernel
theorem dX6_lays_81 : decode cX6_lays 81 = .ok (.iconst 1, 1) := by decide +kernel
theorem dX6_lays_82 : decode cX6_lays 82 = .ok (.isub, 1) := by decide +kernel
theorem dX6_lays_83 : decode cX6_lays 83 = .ok (.putfield 170, 3) := by decide +kernel
theorem dX6_lays_86 : decode cX6_lays 86 = .ok (.goto (-86), 3) := by decide +kernel
theorem dX6_lays_89 : decode cX6_lays 89 = .ok (.return_, 1) := by decide +kernel
theorem dX6_push_0 : decode cX6_push 0 = .ok (.aload_n 0, 1) := by decide +kernel
theorem dX6_push_1 : decode cX6_push 1 = .ok (.getfield 34, 3) := by decide +kernel
theorem dX6_push_4 : decode cX6_push 4 = .ok (.aload_n 0, 1) := by decide +kernel
theorem dX6_push_5 : decode cX6_push 5 = .ok (.dup, 1) := by decide +kernel
theorem dX6_push_6 : decode cX6_push 6 = .ok (.getfield 164, 3) := by decide +kernel
theorem dX6_push_9 : decode cX6_push 9 = .ok (.dup_x1, 1) := by decide +kernel
theorem dX6_push_10 : decode cX6_push 10 = .ok (.iconst 1, 1) := by decide +kernel
theorem dX6_push_11 : decode cX6_push 11 = .ok (.iadd, 1) := by decide +kernel
theorem dX6_push_12 : decode cX6_push 12 = .ok (.putfield 164, 3) := by decide +kernel
theorem dX6_push_15 : decode cX6_push 15 = .ok (.iload_n 1, 1) := by decide +kernel
theorem dX6_push_16 : decode cX6_push 16 = .ok (.iastore, 1) := by decide +kernel
theorem dX6_push_17 : decode cX6_push 17 = .ok (.iload_n 1, 1) := by decide +kernel
theorem dX6_push_18 : decode cX6_push 18 = .ok (.bipush 13, 2) := by decide +kernel
theorem dX6_push_20 : decode cX6_push 20 = .ok (.if_icmp .eq 16, 3) := by decide +kernel
theorem dX6_push_23 : decode cX6_push 23 = .ok (.iload_n 1, 1) := by decide +kernel
theorem dX6_push_24 : decode cX6_push 24 = .ok (.bipush 14, 2) := by decide +kernel
theorem dX6_push_26 : decode cX6_push 26 = .ok (.if_icmp .eq 10, 3) := by decide +kernel
theorem dX6_push_29 : decode cX6_push 29 = .ok (.iload_n 1, 1) := by decide +kernel
theorem dX6_push_30 : decode cX6_push 30 = .ok (.invokestatic 167, 3) := by decide +kernel
theorem dX6_push_33 : decode cX6_push 33 = .ok (.ifCond .ne 13, 3) := by decide +kernel
theorem dX6_push_36 : decode cX6_push 36 = .ok (.aload_n 0, 1) := by decide +kernel
theorem dX6_push_37 : decode cX6_push 37 = .ok (.dup, 1) := by decide +kernel
theorem dX6_push_38 : decode cX6_push 38 = .ok (.getfield 170, 3) := by decide +kernel
theorem dX6_push_41 : decode cX6_push 41 = .ok (.iconst 1, 1) := by decide +kernel
theorem dX6_push_42 : decode cX6_push 42 = .ok (.iadd, 1) := by decide +kernel
theorem dX6_push_43 : decode cX6_push 43 = .ok (.putfield 170, 3) := by decide +kernel
theorem dX6_push_46 : decode cX6_push 46 = .ok (.return_, 1) := by decide +kernel
theorem dX6_one_0 : decode cX6_one 0 = .ok (.aload_n 0, 1) := by decide +kernel
theorem dX6_one_1 : decode cX6_one 1 = .ok (.getfield 135, 3) := by decide +kernel
theorem dX6_one_4 : decode cX6_one 4 = .ok (.bipush 119, 2) := by decide +kernel
theorem dX6_one_6 : decode cX6_one 6 = .ok (.if_icmp .ne 10, 3) := by decide +kernel
theorem dX6_one_9 : decode cX6_one 9 = .ok (.aload_n 0, 1) := by decide +kernel
theorem dX6_one_10 : decode cX6_one 10 = .ok (.invokevirtual 141, 3) := by decide +kernel
theorem dX6_one_13 : decode cX6_one 13 = .ok (.goto 4, 3) := by decide +kernel
theorem dX6_one_16 : decode cX6_one 16 = .ok (.iconst (-1), 1) := by decide +kernel
theorem dX6_one_17 : decode cX6_one 17 = .ok (.istore_n 2, 1) := by decide +kernel
theorem dX6_one_18 : decode cX6_one 18 = .ok (.aload_n 0, 1) := by decide +kernel
theorem dX6_one_19 : decode cX6_one 19 = .ok (.getfield 135, 3) := by decide +kernel
theorem dX6_one_22 : decode cX6_one 22 = .ok (.bipush 48, 2) := by decide +kernel
theorem dX6_one_24 : decode cX6_one 24 = .ok (.if_icmp .eq 8, 3) := by decide +kernel
theorem dX6_one_27 : decode cX6_one 27 = .ok (.iload_n 2, 1) := by decide +kernel
theorem dX6_one_28 : decode cX6_one 28 = .ok (.iconst (-1), 1) := by decide +kernel
theorem dX6_one_29 : decode cX6_one 29 = .ok (.if_icmp .eq 36, 3) := by decide +kernel
theorem dX6_one_32 : decode cX6_one 32 = .ok (.aload_n 0, 1) := by decide +kernel
theorem dX6_one_33 : decode cX6_one 33 = .ok (.iload_n 2, 1) := by decide +kernel
theorem dX6_one_34 : decode cX6_one 34 = .ok (.iconst (-1), 1) := by decide +kernel
theorem dX6_one_35 : decode cX6_one 35 = .ok (.if_icmp .ne 13, 3) := by decide +kernel
theorem dX6_one_38 : decode cX6_one 38 = .ok (.bipush 15, 2) := by decide +kernel
theorem dX6_one_40 : decode cX6_one 40 = .ok (.aload_n 0, 1) := by decide +kernel
theorem dX6_one_41 : decode cX6_one 41 = .ok (.getfield 152, 3) := by decide +kernel
theorem dX6_one_44 : decode cX6_one 44 = .ok (.iadd, 1) := by decide +kernel
theorem dX6_one_45 : decode cX6_one 45 = .ok (.goto 4, 3) := by decide +kernel
theorem dX6_one_48 : decode cX6_one 48 = .ok (.iload_n 2, 1) := by decide +kernel
theorem dX6_one_49 : decode cX6_one 49 = .ok (.invokevirtual 77, 3) := by decide +kernel
theorem dX6_one_52 : decode cX6_one 52 = .ok (.aload_n 0, 1) := by decide +kernel
theorem dX6_one_53 : decode cX6_one 53 = .ok (.bipush 7, 2) := by decide +kernel
theorem dX6_one_55 : decode cX6_one 55 = .ok (.invokevirtual 173, 3) := by decide +kernel
theorem dX6_one_58 : decode cX6_one 58 = .ok (.aload_n 0, 1) := by decide +kernel
theorem dX6_one_59 : decode cX6_one 59 = .ok (.iconst 1, 1) := by decide +kernel
theorem dX6_one_60 : decode cX6_one 60 = .ok (.putfield 176, 3) := by decide +kernel
theorem dX6_one_63 : decode cX6_one 63 = .ok (.iconst 1, 1) := by decide +kernel
theorem dX6_one_64 : decode cX6_one 64 = .ok (.ireturn, 1) := by decide +kernel
theorem dX6_one_65 : decode cX6_one 65 = .ok (.iload_n 1, 1) := by decide +kernel
theorem dX6_one_66 : decode cX6_one 66 = .ok (.ifCond .eq 26, 3) := by decide +kernel
theorem dX6_one_69 : decode cX6_one 69 = .ok (.aload_n 0, 1) := by decide +kernel
theorem dX6_one_70 : decode cX6_one 70 = .ok (.getfield 135, 3) := by decide +kernel
theorem dX6_one_73 : decode cX6_one 73 = .ok (.bipush 119, 2) := by decide +kernel
theorem dX6_one_75 : decode cX6_one 75 = .ok (.if_icmp .ne 17, 3) := by decide +kernel
theorem dX6_one_78 : decode cX6_one 78 = .ok (.aload_n 0, 1) := by decide +kernel
theorem dX6_one_79 : decode cX6_one 79 = .ok (.getfield 126, 3) := by decide +kernel
theorem dX6_one_82 : decode cX6_one 82 = .ok (.sipush 10631, 3) := by decide +kernel
theorem dX6_one_85 : decode cX6_one 85 = .ok (.if_icmp .ne 7, 3) := by decide +kernel
theorem dX6_one_88 : decode cX6_one 88 = .ok (.iconst 1, 1) := by decide +kernel
theorem dX6_one_89 : decode cX6_one 89 = .ok (.goto 4, 3) := by decide +kernel
theorem dX6_one_92 : decode cX6_one 92 = .ok (.iconst 0, 1) := by decide +kernel
theorem dX6_one_93 : decode cX6_one 93 = .ok (.istore_n 3, 1) := by decide +kernel
theorem dX6_one_94 : decode cX6_one 94 = .ok (.iload_n 3, 1) := by decide +kernel
theorem dX6_one_95 : decode cX6_one 95 = .ok (.ifCond .ne 21, 3) := by decide +kernel
theorem dX6_one_98 : decode cX6_one 98 = .ok (.aload_n 0, 1) := by decide +kernel
theorem dX6_one_99 : decode cX6_one 99 = .ok (.getfield 135, 3) := by decide +kernel
theorem dX6_one_102 : decode cX6_one 102 = .ok (.bipush 45, 2) := by decide +kernel
theorem dX6_one_104 : decode cX6_one 104 = .ok (.if_icmp .eq 12, 3) := by decide +kernel
theorem dX6_one_107 : decode cX6_one 107 = .ok (.aload_n 0, 1) := by decide +kernel
theorem dX6_one_108 : decode cX6_one 108 = .ok (.getfield 135, 3) := by decide +kernel
theorem dX6_one_111 : decode cX6_one 111 = .ok (.bipush 40, 2) := by decide +kernel
theorem dX6_one_113 : decode cX6_one 113 = .ok (.if_icmp .ne 11, 3) := by decide +kernel
theorem dX6_one_116 : decode cX6_one 116 = .ok (.aload_n 0, 1) := by decide +kernel
theorem dX6_one_117 : decode cX6_one 117 = .ok (.getfield 170, 3) := by decide +kernel
theorem dX6_one_120 : decode cX6_one 120 = .ok (.iconst 5, 1) := by decide +kernel
theorem dX6_one_121 : decode cX6_one 121 = .ok (.if_icmp .ne 5, 3) := by decide +kernel
theorem dX6_one_124 : decode cX6_one 124 = .ok (.iconst 0, 1) := by decide +kernel
theorem dX6_one_125 : decode cX6_one 125 = .ok (.ireturn, 1) := by decide +kernel
theorem dX6_one_126 : decode cX6_one 126 = .ok (.aload_n 0, 1) := by decide +kernel
theorem dX6_one_127 : decode cX6_one 127 = .ok (.getfield 135, 3) := by decide +kernel
theorem dX6_one_130 : decode cX6_one 130 = .ok (.bipush 40, 2) := by decide +kernel
theorem dX6_one_132 : decode cX6_one 132 = .ok (.if_icmp .ne 28, 3) := by decide +kernel
theorem dX6_one_135 : decode cX6_one 135 = .ok (.aload_n 0, 1) := by decide +kernel
theorem dX6_one_136 : decode cX6_one 136 = .ok (.aload_n 0, 1) := by decide +kernel
theorem dX6_one_137 : decode cX6_one 137 = .ok (.getfield 180, 3) := by decide +kernel
theorem dX6_one_140 : decode cX6_one 140 = .ok (.ifCond .eq 8, 3) := by decide +kernel
theorem dX6_one_143 : decode cX6_one 143 = .ok (.bipush (-2), 2) := by decide +kernel
theorem dX6_one_145 : decode cX6_one 145 = .ok (.goto 4, 3) := by decide +kernel
theorem dX6_one_148 : decode cX6_one 148 = .ok (.iconst (-1), 1) := by decide +kernel
theorem dX6_one_149 : decode cX6_one 149 = .ok (.invokevirtual 183, 3) := by decide +kernel
theorem dX6_one_152 : decode cX6_one 152 = .ok (.aload_n 0, 1) := by decide +kernel
theorem dX6_one_153 : decode cX6_one 153 = .ok (.iconst 0, 1) := by decide +kernel
theorem dX6_one_154 : decode cX6_one 154 = .ok (.putfield 180, 3) := by decide +kernel
theorem dX6_one_157 : decode cX6_one 157 = .ok (.goto 18, 3) := by decide +kernel
theorem dX6_one_160 : decode cX6_one 160 = .ok (.aload_n 0, 1) := by decide +kernel
theorem dX6_one_161 : decode cX6_one 161 = .ok (.iload_n 3, 1) := by decide +kernel
theorem dX6_one_162 : decode cX6_one 162 = .ok (.ifCond .eq 8, 3) := by decide +kernel
theorem dX6_one_165 : decode cX6_one 165 = .ok (.bipush 13, 2) := by decide +kernel
theorem dX6_one_167 : decode cX6_one 167 = .ok (.goto 5, 3) := by decide +kernel
theorem dX6_one_170 : decode cX6_one 170 = .ok (.bipush 14, 2) := by decide +kernel
theorem dX6_one_172 : decode cX6_one 172 = .ok (.invokevirtual 183, 3) := by decide +kernel
theorem dX6_one_175 : decode cX6_one 175 = .ok (.aload_n 0, 1) := by decide +kernel
theorem dX6_one_176 : decode cX6_one 176 = .ok (.aload_n 0, 1) := by decide +kernel
theorem dX6_one_177 : decode cX6_one 177 = .ok (.getfield 135, 3) := by decide +kernel
theorem dX6_one_180 : decode cX6_one 180 = .ok (.bipush 45, 2) := by decide +kernel
theorem dX6_one_182 : decode cX6_one 182 = .ok (.if_icmp .eq 7, 3) := by decide +kernel
theorem dX6_one_185 : decode cX6_one 185 = .ok (.iconst 1, 1) := by decide +kernel
theorem dX6_one_186 : decode cX6_one 186 = .ok (.goto 4, 3) := by decide +kernel
theorem dX6_one_189 : decode cX6_one 189 = .ok (.iconst 0, 1) := by decide +kernel
theorem dX6_one_190 : decode cX6_one 190 = .ok (.putfield 186, 3) := by decide +kernel
theorem dX6_one_193 : decode cX6_one 193 = .ok (.iconst 1, 1) := by decide +kernel
theorem dX6_one_194 : decode cX6_one 194 = .ok (.ireturn, 1) := by decide +kernel
theorem dX6_signed_0 : decode cX6_signed 0 = .ok (.aload_n 0, 1) := by decide +kernel
theorem dX6_signed_1 : decode cX6_signed 1 = .ok (.getfield 135, 3) := by decide +kernel
theorem dX6_signed_4 : decode cX6_signed 4 = .ok (.lookupswitch 129 #[(42, 60), (43, 63), (45, 66), (60, 69), (61, 83), (119, 97)], 60) := by decide +kernel
theorem dX6_signed_64 : decode cX6_signed 64 = .ok (.bipush 8, 2) := by decide +kernel
theorem dX6_signed_66 : decode cX6_signed 66 = .ok (.ireturn, 1) := by decide +kernel
theorem dX6_signed_67 : decode cX6_signed 67 = .ok (.bipush 6, 2) := by decide +kernel
theorem dX6_signed_69 : decode cX6_signed 69 = .ok (.ireturn, 1) := by decide +kernel
theorem dX6_signed_70 : decode cX6_signed 70 = .ok (.bipush 7, 2) := by decide +kernel
theorem dX6_signed_72 : decode cX6_signed 72 = .ok (.ireturn, 1) := by decide +kernel
theorem dX6_signed_73 : decode cX6_signed 73 = .ok (.aload_n 0, 1) := by decide +kernel
theorem dX6_signed_74 : decode cX6_signed 74 = .ok (.getfield 180, 3) := by decide +kernel
theorem dX6_signed_77 : decode cX6_signed 77 = .ok (.ifCond .eq 7, 3) := by decide +kernel
theorem dX6_signed_80 : decode cX6_signed 80 = .ok (.iconst (-1), 1) := by decide +kernel
theorem dX6_signed_81 : decode cX6_signed 81 = .ok (.goto 5, 3) := by decide +kernel
theorem dX6_signed_84 : decode cX6_signed 84 = .ok (.bipush 9, 2) := by decide +kernel
theorem dX6_signed_86 : decode cX6_signed 86 = .ok (.ireturn, 1) := by decide +kernel
theorem dX6_signed_87 : decode cX6_signed 87 = .ok (.aload_n 0, 1) := by decide +kernel
theorem dX6_signed_88 : decode cX6_signed 88 = .ok (.getfield 180, 3) := by decide +kernel
theorem dX6_signed_91 : decode cX6_signed 91 = .ok (.ifCond .eq 7, 3) := by decide +kernel
theorem dX6_signed_94 : decode cX6_signed 94 = .ok (.iconst (-1), 1) := by decide +kernel
theorem dX6_signed_95 : decode cX6_signed 95 = .ok (.goto 5, 3) := by decide +kernel
theorem dX6_signed_98 : decode cX6_signed 98 = .ok (.bipush 10, 2) := by decide +kernel
theorem dX6_signed_100 : decode cX6_signed 100 = .ok (.ireturn, 1) := by decide +kernel
theorem dX6_signed_101 : decode cX6_signed 101 = .ok (.aload_n 0, 1) := by decide +kernel
theorem dX6_signed_102 : decode cX6_signed 102 = .ok (.getfield 126, 3) := by decide +kernel
theorem dX6_signed_105 : decode cX6_signed 105 = .ok (.sipush 1111, 3) := by decide +kernel
theorem dX6_signed_108 : decode cX6_signed 108 = .ok (.if_icmp .ne 8, 3) := by decide +kernel
theorem dX6_signed_111 : decode cX6_signed 111 = .ok (.bipush 11, 2) := by decide +kernel
theorem dX6_signed_113 : decode cX6_signed 113 = .ok (.goto 19, 3) := by decide +kernel
theorem dX6_signed_116 : decode cX6_signed 116 = .ok (.aload_n 0, 1) := by decide +kernel
theorem dX6_signed_117 : decode cX6_signed 117 = .ok (.getfield 126, 3) := by decide +kernel
theorem dX6_signed_120 : decode cX6_signed 120 = .ok (.sipush 423, 3) := by decide +kernel
theorem dX6_signed_123 : decode cX6_signed 123 = .ok (.if_icmp .ne 8, 3) := by decide +kernel
theorem dX6_signed_126 : decode cX6_signed 126 = .ok (.bipush 12, 2) := by decide +kernel
theorem dX6_signed_128 : decode cX6_signed 128 = .ok (.goto 4, 3) := by decide +kernel
theorem dX6_signed_131 : decode cX6_signed 131 = .ok (.iconst (-1), 1) := by decide +kernel
theorem dX6_signed_132 : decode cX6_signed 132 = .ok (.ireturn, 1) := by decide +kernel
theorem dX6_signed_133 : decode cX6_signed 133 = .ok (.iconst (-1), 1) := by decide +kernel
theorem dX6_signed_134 : decode cX6_signed 134 = .ok (.ireturn, 1) := by decide +kernel
theorem dX6_closes_0 : decode cX6_closes 0 = .ok (.aload_n 0, 1) := by decide +kernel
theorem dX6_closes_1 : decode cX6_closes 1 = .ok (.iconst 1, 1) := by decide +kernel
theorem dX6_closes_2 : decode cX6_closes 2 = .ok (.invokevirtual 173, 3) := by decide +kernel
theorem dX6_closes_5 : decode cX6_closes 5 = .ok (.aload_n 0, 1) := by decide +kernel
theorem dX6_closes_6 : decode cX6_closes 6 = .ok (.getfield 164, 3) := by decide +kernel
theorem dX6_closes_9 : decode cX6_closes 9 = .ok (.ifCond .ne 5, 3) := by decide +kernel
theorem dX6_closes_12 : decode cX6_closes 12 = .ok (.iconst 0, 1) := by decide +kernel
theorem dX6_closes_13 : decode cX6_closes 13 = .ok (.ireturn, 1) := by decide +kernel
theorem dX6_closes_14 : decode cX6_closes 14 = .ok (.aload_n 0, 1) := by decide +kernel
theorem dX6_closes_15 : decode cX6_closes 15 = .ok (.dup, 1) := by decide +kernel
theorem dX6_closes_16 : decode cX6_closes 16 = .ok (.getfield 164, 3) := by decide +kernel
theorem dX6_closes_19 : decode cX6_closes 19 = .ok (.iconst 1, 1) := by decide +kernel
theorem dX6_closes_20 : decode cX6_closes 20 = .ok (.isub, 1) := by decide +kernel
theorem dX6_closes_21 : decode cX6_closes 21 = .ok (.putfield 164, 3) := by decide +kernel
theorem dX6_closes_24 : decode cX6_closes 24 = .ok (.aload_n 0, 1) := by decide +kernel
theorem dX6_closes_25 : decode cX6_closes 25 = .ok (.aload_n 0, 1) := by decide +kernel
theorem dX6_closes_26 : decode cX6_closes 26 = .ok (.getfield 34, 3) := by decide +kernel
theorem dX6_closes_29 : decode cX6_closes 29 = .ok (.aload_n 0, 1) := by decide +kernel
theorem dX6_closes_30 : decode cX6_closes 30 = .ok (.getfield 164, 3) := by decide +kernel
theorem dX6_closes_33 : decode cX6_closes 33 = .ok (.iaload, 1) := by decide +kernel
theorem dX6_closes_34 : decode cX6_closes 34 = .ok (.bipush (-2), 2) := by decide +kernel
theorem dX6_closes_36 : decode cX6_closes 36 = .ok (.if_icmp .ne 7, 3) := by decide +kernel
theorem dX6_closes_39 : decode cX6_closes 39 = .ok (.iconst 1, 1) := by decide +kernel
theorem dX6_closes_40 : decode cX6_closes 40 = .ok (.goto 4, 3) := by decide +kernel
theorem dX6_closes_43 : decode cX6_closes 43 = .ok (.iconst 0, 1) := by decide +kernel
theorem dX6_closes_44 : decode cX6_closes 44 = .ok (.putfield 180, 3) := by decide +kernel
theorem dX6_closes_47 : decode cX6_closes 47 = .ok (.aload_n 0, 1) := by decide +kernel
theorem dX6_closes_48 : decode cX6_closes 48 = .ok (.dup, 1) := by decide +kernel
theorem dX6_closes_49 : decode cX6_closes 49 = .ok (.getfield 170, 3) := by decide +kernel
theorem dX6_closes_52 : decode cX6_closes 52 = .ok (.iconst 1, 1) := by decide +kernel
theorem dX6_closes_53 : decode cX6_closes 53 = .ok (.isub, 1) := by decide +kernel
theorem dX6_closes_54 : decode cX6_closes 54 = .ok (.putfield 170, 3) := by decide +kernel
theorem dX6_closes_57 : decode cX6_closes 57 = .ok (.aload_n 0, 1) := by decide +kernel
theorem dX6_closes_58 : decode cX6_closes 58 = .ok (.bipush 7, 2) := by decide +kernel
theorem dX6_closes_60 : decode cX6_closes 60 = .ok (.invokevirtual 173, 3) := by decide +kernel
theorem dX6_closes_63 : decode cX6_closes 63 = .ok (.iconst 1, 1) := by decide +kernel
theorem dX6_closes_64 : decode cX6_closes 64 = .ok (.ireturn, 1) := by decide +kernel
theorem dX6_goesOn_0 : decode cX6_goesOn 0 = .ok (.aload_n 0, 1) := by decide +kernel
theorem dX6_goesOn_1 : decode cX6_goesOn 1 = .ok (.getfield 176, 3) := by decide +kernel
theorem dX6_goesOn_4 : decode cX6_goesOn 4 = .ok (.ifCond .ne 12, 3) := by decide +kernel
theorem dX6_goesOn_7 : decode cX6_goesOn 7 = .ok (.aload_n 0, 1) := by decide +kernel
theorem dX6_goesOn_8 : decode cX6_goesOn 8 = .ok (.aload_n 0, 1) := by decide +kernel
theorem dX6_goesOn_9 : decode cX6_goesOn 9 = .ok (.getfield 186, 3) := by decide +kernel
theorem dX6_goesOn_12 : decode cX6_goesOn 12 = .ok (.invokevirtual 189, 3) := by decide +kernel
theorem dX6_goesOn_15 : decode cX6_goesOn 15 = .ok (.ireturn, 1) := by decide +kernel
theorem dX6_goesOn_16 : decode cX6_goesOn 16 = .ok (.aload_n 0, 1) := by decide +kernel
theorem dX6_goesOn_17 : decode cX6_goesOn 17 = .ok (.getfield 135, 3) := by decide +kernel
theorem dX6_goesOn_20 : decode cX6_goesOn 20 = .ok (.bipush 41, 2) := by decide +kernel
theorem dX6_goesOn_22 : decode cX6_goesOn 22 = .ok (.if_icmp .ne 8, 3) := by decide +kernel
theorem dX6_goesOn_25 : decode cX6_goesOn 25 = .ok (.aload_n 0, 1) := by decide +kernel
theorem dX6_goesOn_26 : decode cX6_goesOn 26 = .ok (.invokevirtual 193, 3) := by decide +kernel
theorem dX6_goesOn_29 : decode cX6_goesOn 29 = .ok (.ireturn, 1) := by decide +kernel
theorem dX6_goesOn_30 : decode cX6_goesOn 30 = .ok (.aload_n 0, 1) := by decide +kernel
theorem dX6_goesOn_31 : decode cX6_goesOn 31 = .ok (.invokevirtual 196, 3) := by decide +kernel
theorem dX6_goesOn_34 : decode cX6_goesOn 34 = .ok (.istore_n 1, 1) := by decide +kernel
theorem dX6_goesOn_35 : decode cX6_goesOn 35 = .ok (.iload_n 1, 1) := by decide +kernel
theorem dX6_goesOn_36 : decode cX6_goesOn 36 = .ok (.iconst (-1), 1) := by decide +kernel
theorem dX6_goesOn_37 : decode cX6_goesOn 37 = .ok (.if_icmp .ne 5, 3) := by decide +kernel
theorem dX6_goesOn_40 : decode cX6_goesOn 40 = .ok (.iconst 0, 1) := by decide +kernel
theorem dX6_goesOn_41 : decode cX6_goesOn 41 = .ok (.ireturn, 1) := by decide +kernel
theorem dX6_goesOn_42 : decode cX6_goesOn 42 = .ok (.aload_n 0, 1) := by decide +kernel
theorem dX6_goesOn_43 : decode cX6_goesOn 43 = .ok (.iload_n 1, 1) := by decide +kernel
theorem dX6_goesOn_44 : decode cX6_goesOn 44 = .ok (.invokestatic 167, 3) := by decide +kernel
theorem dX6_goesOn_47 : decode cX6_goesOn 47 = .ok (.invokevirtual 173, 3) := by decide +kernel
theorem dX6_goesOn_50 : decode cX6_goesOn 50 = .ok (.aload_n 0, 1) := by decide +kernel
theorem dX6_goesOn_51 : decode cX6_goesOn 51 = .ok (.iload_n 1, 1) := by decide +kernel
theorem dX6_goesOn_52 : decode cX6_goesOn 52 = .ok (.invokevirtual 183, 3) := by decide +kernel
theorem dX6_goesOn_55 : decode cX6_goesOn 55 = .ok (.aload_n 0, 1) := by decide +kernel
theorem dX6_goesOn_56 : decode cX6_goesOn 56 = .ok (.iconst 0, 1) := by decide +kernel
theorem dX6_goesOn_57 : decode cX6_goesOn 57 = .ok (.putfield 176, 3) := by decide +kernel
theorem dX6_goesOn_60 : decode cX6_goesOn 60 = .ok (.aload_n 0, 1) := by decide +kernel
theorem dX6_goesOn_61 : decode cX6_goesOn 61 = .ok (.iload_n 1, 1) := by decide +kernel
theorem dX6_goesOn_62 : decode cX6_goesOn 62 = .ok (.invokestatic 167, 3) := by decide +kernel
theorem dX6_goesOn_65 : decode cX6_goesOn 65 = .ok (.iconst 3, 1) := by decide +kernel
theorem dX6_goesOn_66 : decode cX6_goesOn 66 = .ok (.if_icmp .ge 7, 3) := by decide +kernel
theorem dX6_goesOn_69 : decode cX6_goesOn 69 = .ok (.iconst 1, 1) := by decide +kernel
theorem dX6_goesOn_70 : decode cX6_goesOn 70 = .ok (.goto 4, 3) := by decide +kernel
theorem dX6_goesOn_73 : decode cX6_goesOn 73 = .ok (.iconst 0, 1) := by decide +kernel
theorem dX6_goesOn_74 : decode cX6_goesOn 74 = .ok (.putfield 186, 3) := by decide +kernel
theorem dX6_goesOn_77 : decode cX6_goesOn 77 = .ok (.aload_n 0, 1) := by decide +kernel
theorem dX6_goesOn_78 : decode cX6_goesOn 78 = .ok (.getfield 186, 3) := by decide +kernel
theorem dX6_goesOn_81 : decode cX6_goesOn 81 = .ok (.ifCond .eq 11, 3) := by decide +kernel
theorem dX6_goesOn_84 : decode cX6_goesOn 84 = .ok (.aload_n 0, 1) := by decide +kernel
theorem dX6_goesOn_85 : decode cX6_goesOn 85 = .ok (.iconst 0, 1) := by decide +kernel
theorem dX6_goesOn_86 : decode cX6_goesOn 86 = .ok (.putfield 180, 3) := by decide +kernel
theorem dX6_goesOn_89 : decode cX6_goesOn 89 = .ok (.goto 16, 3) := by decide +kernel
theorem dX6_goesOn_92 : decode cX6_goesOn 92 = .ok (.iload_n 1, 1) := by decide +kernel
theorem dX6_goesOn_93 : decode cX6_goesOn 93 = .ok (.invokestatic 167, 3) := by decide +kernel
theorem dX6_goesOn_96 : decode cX6_goesOn 96 = .ok (.iconst 4, 1) := by decide +kernel
theorem dX6_goesOn_97 : decode cX6_goesOn 97 = .ok (.if_icmp .ne 8, 3) := by decide +kernel
theorem dX6_goesOn_100 : decode cX6_goesOn 100 = .ok (.aload_n 0, 1) := by decide +kernel
theorem dX6_goesOn_101 : decode cX6_goesOn 101 = .ok (.iconst 1, 1) := by decide +kernel
theorem dX6_goesOn_102 : decode cX6_goesOn 102 = .ok (.putfield 180, 3) := by decide +kernel
theorem dX6_goesOn_105 : decode cX6_goesOn 105 = .ok (.iconst 1, 1) := by decide +kernel
theorem dX6_goesOn_106 : decode cX6_goesOn 106 = .ok (.ireturn, 1) := by decide +kernel
theorem dX6_part_0 : decode cX6_part 0 = .ok (.aload_n 0, 1) := by decide +kernel
theorem dX6_part_1 : decode cX6_part 1 = .ok (.iload_n 2, 1) := by decide +kernel
theorem dX6_part_2 : decode cX6_part 2 = .ok (.invokevirtual 199, 3) := by decide +kernel
theorem dX6_part_5 : decode cX6_part 5 = .ok (.ifCond .ne 5, 3) := by decide +kernel
theorem dX6_part_8 : decode cX6_part 8 = .ok (.iconst 0, 1) := by decide +kernel
theorem dX6_part_9 : decode cX6_part 9 = .ok (.ireturn, 1) := by decide +kernel
theorem dX6_part_10 : decode cX6_part 10 = .ok (.aload_n 0, 1) := by decide +kernel
theorem dX6_part_11 : decode cX6_part 11 = .ok (.getfield 25, 3) := by decide +kernel
theorem dX6_part_14 : decode cX6_part 14 = .ok (.iload_n 1, 1) := by decide +kernel
theorem dX6_part_15 : decode cX6_part 15 = .ok (.aload_n 0, 1) := by decide +kernel
theorem dX6_part_16 : decode cX6_part 16 = .ok (.getfield 161, 3) := by decide +kernel
theorem dX6_part_19 : decode cX6_part 19 = .ok (.iastore, 1) := by decide +kernel
theorem dX6_part_20 : decode cX6_part 20 = .ok (.aload_n 0, 1) := by decide +kernel
theorem dX6_part_21 : decode cX6_part 21 = .ok (.iconst 0, 1) := by decide +kernel
theorem dX6_part_22 : decode cX6_part 22 = .ok (.putfield 164, 3) := by decide +kernel
theorem dX6_part_25 : decode cX6_part 25 = .ok (.aload_n 0, 1) := by decide +kernel
theorem dX6_part_26 : decode cX6_part 26 = .ok (.iconst 0, 1) := by decide +kernel
theorem dX6_part_27 : decode cX6_part 27 = .ok (.putfield 170, 3) := by decide +kernel
theorem dX6_part_30 : decode cX6_part 30 = .ok (.aload_n 0, 1) := by decide +kernel
theorem dX6_part_31 : decode cX6_part 31 = .ok (.iconst 0, 1) := by decide +kernel
theorem dX6_part_32 : decode cX6_part 32 = .ok (.putfield 180, 3) := by decide +kernel
theorem dX6_part_35 : decode cX6_part 35 = .ok (.aload_n 0, 1) := by decide +kernel
theorem dX6_part_36 : decode cX6_part 36 = .ok (.iconst 0, 1) := by decide +kernel
theorem dX6_part_37 : decode cX6_part 37 = .ok (.putfield 176, 3) := by decide +kernel
theorem dX6_part_40 : decode cX6_part 40 = .ok (.aload_n 0, 1) := by decide +kernel
theorem dX6_part_41 : decode cX6_part 41 = .ok (.iconst 1, 1) := by decide +kernel
theorem dX6_part_42 : decode cX6_part 42 = .ok (.putfield 186, 3) := by decide +kernel
theorem dX6_part_45 : decode cX6_part 45 = .ok (.aload_n 0, 1) := by decide +kernel
theorem dX6_part_46 : decode cX6_part 46 = .ok (.getfield 176, 3) := by decide +kernel
theorem dX6_part_49 : decode cX6_part 49 = .ok (.ifCond .eq 12, 3) := by decide +kernel
theorem dX6_part_52 : decode cX6_part 52 = .ok (.aload_n 0, 1) := by decide +kernel
theorem dX6_part_53 : decode cX6_part 53 = .ok (.getfield 135, 3) := by decide +kernel
theorem dX6_part_56 : decode cX6_part 56 = .ok (.bipush 59, 2) := by decide +kernel
theorem dX6_part_58 : decode cX6_part 58 = .ok (.if_icmp .eq 19, 3) := by decide +kernel
theorem dX6_part_61 : decode cX6_part 61 = .ok (.aload_n 0, 1) := by decide +kernel
theorem dX6_part_62 : decode cX6_part 62 = .ok (.invokevirtual 202, 3) := by decide +kernel
theorem dX6_part_65 : decode cX6_part 65 = .ok (.ifCond .ne 5, 3) := by decide +kernel
theorem dX6_part_68 : decode cX6_part 68 = .ok (.iconst 0, 1) := by decide +kernel
theorem dX6_part_69 : decode cX6_part 69 = .ok (.ireturn, 1) := by decide +kernel
theorem dX6_part_70 : decode cX6_part 70 = .ok (.aload_n 0, 1) := by decide +kernel
theorem dX6_part_71 : decode cX6_part 71 = .ok (.invokevirtual 158, 3) := by decide +kernel
theorem dX6_part_74 : decode cX6_part 74 = .ok (.goto (-29), 3) := by decide +kernel
theorem dX6_part_77 : decode cX6_part 77 = .ok (.aload_n 0, 1) := by decide +kernel
theorem dX6_part_78 : decode cX6_part 78 = .ok (.iconst 1, 1) := by decide +kernel
theorem dX6_part_79 : decode cX6_part 79 = .ok (.invokevirtual 173, 3) := by decide +kernel
theorem dX6_part_82 : decode cX6_part 82 = .ok (.aload_n 0, 1) := by decide +kernel
theorem dX6_part_83 : decode cX6_part 83 = .ok (.getfield 164, 3) := by decide +kernel
theorem dX6_part_86 : decode cX6_part 86 = .ok (.ifCond .le 5, 3) := by decide +kernel
theorem dX6_part_89 : decode cX6_part 89 = .ok (.iconst 0, 1) := by decide +kernel
theorem dX6_part_90 : decode cX6_part 90 = .ok (.ireturn, 1) := by decide +kernel
theorem dX6_part_91 : decode cX6_part 91 = .ok (.aload_n 0, 1) := by decide +kernel
theorem dX6_part_92 : decode cX6_part 92 = .ok (.getfield 28, 3) := by decide +kernel
theorem dX6_part_95 : decode cX6_part 95 = .ok (.iload_n 1, 1) := by decide +kernel
theorem dX6_part_96 : decode cX6_part 96 = .ok (.aload_n 0, 1) := by decide +kernel
theorem dX6_part_97 : decode cX6_part 97 = .ok (.getfield 161, 3) := by decide +kernel
theorem dX6_part_100 : decode cX6_part 100 = .ok (.aload_n 0, 1) := by decide +kernel
theorem dX6_part_101 : decode cX6_part 101 = .ok (.getfield 25, 3) := by decide +kernel
theorem dX6_part_104 : decode cX6_part 104 = .ok (.iload_n 1, 1) := by decide +kernel
theorem dX6_part_105 : decode cX6_part 105 = .ok (.iaload, 1) := by decide +kernel
theorem dX6_part_106 : decode cX6_part 106 = .ok (.isub, 1) := by decide +kernel
theorem dX6_part_107 : decode cX6_part 107 = .ok (.iastore, 1) := by decide +kernel
theorem dX6_part_108 : decode cX6_part 108 = .ok (.aload_n 0, 1) := by decide +kernel
theorem dX6_part_109 : decode cX6_part 109 = .ok (.invokevirtual 158, 3) := by decide +kernel
theorem dX6_part_112 : decode cX6_part 112 = .ok (.iconst 1, 1) := by decide +kernel
theorem dX6_part_113 : decode cX6_part 113 = .ok (.ireturn, 1) := by decide +kernel
theorem dX6_text_0 : decode cX6_text 0 = .ok (.aload_n 0, 1) := by decide +kernel
theorem dX6_text_1 : decode cX6_text 1 = .ok (.getfield 81, 3) := by decide +kernel
theorem dX6_text_4 : decode cX6_text 4 = .ok (.bipush 6, 2) := by decide +kernel
theorem dX6_text_6 : decode cX6_text 6 = .ok (.if_icmp .ne 6, 3) := by decide +kernel
theorem dX6_text_9 : decode cX6_text 9 = .ok (.bipush (-4), 2) := by decide +kernel
theorem dX6_text_11 : decode cX6_text 11 = .ok (.ireturn, 1) := by decide +kernel
theorem dX6_text_12 : decode cX6_text 12 = .ok (.aload_n 0, 1) := by decide +kernel
theorem dX6_text_13 : decode cX6_text 13 = .ok (.getfield 161, 3) := by decide +kernel
theorem dX6_text_16 : decode cX6_text 16 = .ok (.istore_n 1, 1) := by decide +kernel
theorem dX6_text_17 : decode cX6_text 17 = .ok (.aload_n 0, 1) := by decide +kernel
theorem dX6_text_18 : decode cX6_text 18 = .ok (.iconst 0, 1) := by decide +kernel
theorem dX6_text_19 : decode cX6_text 19 = .ok (.putfield 129, 3) := by decide +kernel
theorem dX6_text_22 : decode cX6_text 22 = .ok (.aload_n 0, 1) := by decide +kernel
theorem dX6_text_23 : decode cX6_text 23 = .ok (.invokevirtual 158, 3) := by decide +kernel
theorem dX6_text_26 : decode cX6_text 26 = .ok (.aload_n 0, 1) := by decide +kernel
theorem dX6_text_27 : decode cX6_text 27 = .ok (.iconst 3, 1) := by decide +kernel
theorem dX6_text_28 : decode cX6_text 28 = .ok (.aload_n 0, 1) := by decide +kernel
theorem dX6_text_29 : decode cX6_text 29 = .ok (.getfield 81, 3) := by decide +kernel
theorem dX6_text_32 : decode cX6_text 32 = .ok (.imul, 1) := by decide +kernel
theorem dX6_text_33 : decode cX6_text 33 = .ok (.ldc 205, 2) := by decide +kernel
theorem dX6_text_35 : decode cX6_text 35 = .ok (.invokevirtual 206, 3) := by decide +kernel
theorem dX6_text_38 : decode cX6_text 38 = .ok (.ifCond .eq 50, 3) := by decide +kernel
theorem dX6_text_41 : decode cX6_text 41 = .ok (.aload_n 0, 1) := by decide +kernel
theorem dX6_text_42 : decode cX6_text 42 = .ok (.iconst 3, 1) := by decide +kernel
theorem dX6_text_43 : decode cX6_text 43 = .ok (.aload_n 0, 1) := by decide +kernel
theorem dX6_text_44 : decode cX6_text 44 = .ok (.getfield 81, 3) := by decide +kernel
theorem dX6_text_47 : decode cX6_text 47 = .ok (.imul, 1) := by decide +kernel
theorem dX6_text_48 : decode cX6_text 48 = .ok (.iconst 1, 1) := by decide +kernel
theorem dX6_text_49 : decode cX6_text 49 = .ok (.iadd, 1) := by decide +kernel
theorem dX6_text_50 : decode cX6_text 50 = .ok (.ldc 209, 2) := by decide +kernel
theorem dX6_text_52 : decode cX6_text 52 = .ok (.invokevirtual 206, 3) := by decide +kernel
theorem dX6_text_55 : decode cX6_text 55 = .ok (.ifCond .eq 33, 3) := by decide +kernel
theorem dX6_text_58 : decode cX6_text 58 = .ok (.aload_n 0, 1) := by decide +kernel
theorem dX6_text_59 : decode cX6_text 59 = .ok (.iconst 3, 1) := by decide +kernel
theorem dX6_text_60 : decode cX6_text 60 = .ok (.aload_n 0, 1) := by decide +kernel
theorem dX6_text_61 : decode cX6_text 61 = .ok (.getfield 81, 3) := by decide +kernel
theorem dX6_text_64 : decode cX6_text 64 = .ok (.imul, 1) := by decide +kernel
theorem dX6_text_65 : decode cX6_text 65 = .ok (.iconst 2, 1) := by decide +kernel
theorem dX6_text_66 : decode cX6_text 66 = .ok (.iadd, 1) := by decide +kernel
theorem dX6_text_67 : decode cX6_text 67 = .ok (.ldc 210, 2) := by decide +kernel
theorem dX6_text_69 : decode cX6_text 69 = .ok (.invokevirtual 206, 3) := by decide +kernel
theorem dX6_text_72 : decode cX6_text 72 = .ok (.ifCond .eq 16, 3) := by decide +kernel
theorem dX6_text_75 : decode cX6_text 75 = .ok (.aload_n 0, 1) := by decide +kernel
theorem dX6_text_76 : decode cX6_text 76 = .ok (.getfield 135, 3) := by decide +kernel
theorem dX6_text_79 : decode cX6_text 79 = .ok (.bipush 101, 2) := by decide +kernel
theorem dX6_text_81 : decode cX6_text 81 = .ok (.if_icmp .ne 7, 3) := by decide +kernel
theorem dX6_text_84 : decode cX6_text 84 = .ok (.iconst 1, 1) := by decide +kernel
theorem dX6_text_85 : decode cX6_text 85 = .ok (.goto 4, 3) := by decide +kernel
theorem dX6_text_88 : decode cX6_text 88 = .ok (.iconst 0, 1) := by decide +kernel
theorem dX6_text_89 : decode cX6_text 89 = .ok (.istore_n 2, 1) := by decide +kernel
theorem dX6_text_90 : decode cX6_text 90 = .ok (.aload_n 0, 1) := by decide +kernel
theorem dX6_text_91 : decode cX6_text 91 = .ok (.iconst 0, 1) := by decide +kernel
theorem dX6_text_92 : decode cX6_text 92 = .ok (.putfield 123, 3) := by decide +kernel
theorem dX6_text_95 : decode cX6_text 95 = .ok (.iload_n 2, 1) := by decide +kernel
theorem dX6_text_96 : decode cX6_text 96 = .ok (.ifCond .eq 15, 3) := by decide +kernel
theorem dX6_text_99 : decode cX6_text 99 = .ok (.aload_n 0, 1) := by decide +kernel
theorem dX6_text_100 : decode cX6_text 100 = .ok (.dup, 1) := by decide +kernel
theorem dX6_text_101 : decode cX6_text 101 = .ok (.getfield 81, 3) := by decide +kernel
theorem dX6_text_104 : decode cX6_text 104 = .ok (.dup_x1, 1) := by decide +kernel
theorem dX6_text_105 : decode cX6_text 105 = .ok (.iconst 1, 1) := by decide +kernel
theorem dX6_text_106 : decode cX6_text 106 = .ok (.iadd, 1) := by decide +kernel
theorem dX6_text_107 : decode cX6_text 107 = .ok (.putfield 81, 3) := by decide +kernel
theorem dX6_text_110 : decode cX6_text 110 = .ok (.ireturn, 1) := by decide +kernel
theorem dX6_text_111 : decode cX6_text 111 = .ok (.aload_n 0, 1) := by decide +kernel
theorem dX6_text_112 : decode cX6_text 112 = .ok (.iload_n 1, 1) := by decide +kernel
theorem dX6_text_113 : decode cX6_text 113 = .ok (.putfield 161, 3) := by decide +kernel
theorem dX6_text_116 : decode cX6_text 116 = .ok (.bipush (-100), 2) := by decide +kernel
theorem dX6_text_118 : decode cX6_text 118 = .ok (.aload_n 0, 1) := by decide +kernel
theorem dX6_text_119 : decode cX6_text 119 = .ok (.getfield 132, 3) := by decide +kernel
theorem dX6_text_122 : decode cX6_text 122 = .ok (.isub, 1) := by decide +kernel
theorem dX6_text_123 : decode cX6_text 123 = .ok (.ireturn, 1) := by decide +kernel
theorem dX6_force_0 : decode cX6_force 0 = .ok (.iload_n 1, 1) := by decide +kernel
theorem dX6_force_1 : decode cX6_force 1 = .ok (.iconst 0, 1) := by decide +kernel
theorem dX6_force_2 : decode cX6_force 2 = .ok (.aload_n 0, 1) := by decide +kernel
theorem dX6_force_3 : decode cX6_force 3 = .ok (.getfield 81, 3) := by decide +kernel
theorem dX6_force_6 : decode cX6_force 6 = .ok (.iconst 1, 1) := by decide +kernel
theorem dX6_force_7 : decode cX6_force 7 = .ok (.isub, 1) := by decide +kernel
theorem dX6_force_8 : decode cX6_force 8 = .ok (.invokestatic 88, 3) := by decide +kernel
theorem dX6_force_11 : decode cX6_force 11 = .ok (.ifCond .ne 6, 3) := by decide +kernel
theorem dX6_force_14 : decode cX6_force 14 = .ok (.bipush (-2), 2) := by decide +kernel
theorem dX6_force_16 : decode cX6_force 16 = .ok (.ireturn, 1) := by decide +kernel
theorem dX6_force_17 : decode cX6_force 17 = .ok (.aload_n 0, 1) := by decide +kernel
theorem dX6_force_18 : decode cX6_force 18 = .ok (.getfield 211, 3) := by decide +kernel
theorem dX6_force_21 : decode cX6_force 21 = .ok (.istore_n 2, 1) := by decide +kernel
theorem dX6_force_22 : decode cX6_force 22 = .ok (.aload_n 0, 1) := by decide +kernel
theorem dX6_force_23 : decode cX6_force 23 = .ok (.iload_n 1, 1) := by decide +kernel
theorem dX6_force_24 : decode cX6_force 24 = .ok (.putfield 211, 3) := by decide +kernel
theorem dX6_force_27 : decode cX6_force 27 = .ok (.iload_n 2, 1) := by decide +kernel
theorem dX6_force_28 : decode cX6_force 28 = .ok (.ireturn, 1) := by decide +kernel
theorem dX6_ruled_0 : decode cX6_ruled 0 = .ok (.iconst 0, 1) := by decide +kernel
theorem dX6_ruled_1 : decode cX6_ruled 1 = .ok (.istore_n 2, 1) := by decide +kernel
theorem dX6_ruled_2 : decode cX6_ruled 2 = .ok (.aload_n 0, 1) := by decide +kernel
theorem dX6_ruled_3 : decode cX6_ruled 3 = .ok (.getfield 25, 3) := by decide +kernel
theorem dX6_ruled_6 : decode cX6_ruled 6 = .ok (.iconst 3, 1) := by decide +kernel
theorem dX6_ruled_7 : decode cX6_ruled 7 = .ok (.aload_n 0, 1) := by decide +kernel
theorem dX6_ruled_8 : decode cX6_ruled 8 = .ok (.getfield 211, 3) := by decide +kernel
theorem dX6_ruled_11 : decode cX6_ruled 11 = .ok (.imul, 1) := by decide +kernel
theorem dX6_ruled_12 : decode cX6_ruled 12 = .ok (.iload_n 1, 1) := by decide +kernel
theorem dX6_ruled_13 : decode cX6_ruled 13 = .ok (.iadd, 1) := by decide +kernel
theorem dX6_ruled_14 : decode cX6_ruled 14 = .ok (.iaload, 1) := by decide +kernel
theorem dX6_ruled_15 : decode cX6_ruled 15 = .ok (.istore_n 3, 1) := by decide +kernel
theorem dX6_ruled_16 : decode cX6_ruled 16 = .ok (.iload_n 3, 1) := by decide +kernel
theorem dX6_ruled_17 : decode cX6_ruled 17 = .ok (.istore 4, 2) := by decide +kernel
theorem dX6_ruled_19 : decode cX6_ruled 19 = .ok (.iload 4, 2) := by decide +kernel
theorem dX6_ruled_21 : decode cX6_ruled 21 = .ok (.iload_n 3, 1) := by decide +kernel
theorem dX6_ruled_22 : decode cX6_ruled 22 = .ok (.aload_n 0, 1) := by decide +kernel
theorem dX6_ruled_23 : decode cX6_ruled 23 = .ok (.getfield 28, 3) := by decide +kernel
theorem dX6_ruled_26 : decode cX6_ruled 26 = .ok (.iconst 3, 1) := by decide +kernel
theorem dX6_ruled_27 : decode cX6_ruled 27 = .ok (.aload_n 0, 1) := by decide +kernel
theorem dX6_ruled_28 : decode cX6_ruled 28 = .ok (.getfield 211, 3) := by decide +kernel
theorem dX6_ruled_31 : decode cX6_ruled 31 = .ok (.imul, 1) := by decide +kernel
theorem dX6_ruled_32 : decode cX6_ruled 32 = .ok (.iload_n 1, 1) := by decide +kernel
theorem dX6_ruled_33 : decode cX6_ruled 33 = .ok (.iadd, 1) := by decide +kernel
theorem dX6_ruled_34 : decode cX6_ruled 34 = .ok (.iaload, 1) := by decide +kernel
theorem dX6_ruled_35 : decode cX6_ruled 35 = .ok (.iadd, 1) := by decide +kernel
theorem dX6_ruled_36 : decode cX6_ruled 36 = .ok (.if_icmp .ge 155, 3) := by decide +kernel
theorem dX6_ruled_39 : decode cX6_ruled 39 = .ok (.aload_n 0, 1) := by decide +kernel
theorem dX6_ruled_40 : decode cX6_ruled 40 = .ok (.getfield 31, 3) := by decide +kernel
theorem dX6_ruled_43 : decode cX6_ruled 43 = .ok (.iload 4, 2) := by decide +kernel
theorem dX6_ruled_45 : decode cX6_ruled 45 = .ok (.iaload, 1) := by decide +kernel
theorem dX6_ruled_46 : decode cX6_ruled 46 = .ok (.istore 5, 2) := by decide +kernel
theorem dX6_ruled_48 : decode cX6_ruled 48 = .ok (.iload 5, 2) := by decide +kernel
theorem dX6_ruled_50 : decode cX6_ruled 50 = .ok (.bipush 15, 2) := by decide +kernel
theorem dX6_ruled_52 : decode cX6_ruled 52 = .ok (.if_icmp .ge 9, 3) := by decide +kernel
theorem dX6_ruled_55 : decode cX6_ruled 55 = .ok (.iload 5, 2) := by decide +kernel
theorem dX6_ruled_57 : decode cX6_ruled 57 = .ok (.iconst 5, 1) := by decide +kernel
theorem dX6_ruled_58 : decode cX6_ruled 58 = .ok (.if_icmp .gt 37, 3) := by decide +kernel
theorem dX6_ruled_61 : decode cX6_ruled 61 = .ok (.aload_n 0, 1) := by decide +kernel
theorem dX6_ruled_62 : decode cX6_ruled 62 = .ok (.getfield 37, 3) := by decide +kernel
theorem dX6_ruled_65 : decode cX6_ruled 65 = .ok (.iload_n 2, 1) := by decide +kernel
theorem dX6_ruled_66 : decode cX6_ruled 66 = .ok (.iinc 2 1, 3) := by decide +kernel
theorem dX6_ruled_69 : decode cX6_ruled 69 = .ok (.iload 5, 2) := by decide +kernel
theorem dX6_ruled_71 : decode cX6_ruled 71 = .ok (.bipush 15, 2) := by decide +kernel
theorem dX6_ruled_73 : decode cX6_ruled 73 = .ok (.if_icmp .lt 11, 3) := by decide +kernel
theorem dX6_ruled_76 : decode cX6_ruled 76 = .ok (.iload 5, 2) := by decide +kernel
theorem dX6_ruled_78 : decode cX6_ruled 78 = .ok (.bipush 15, 2) := by decide +kernel
theorem dX6_ruled_80 : decode cX6_ruled 80 = .ok (.isub, 1) := by decide +kernel
theorem dX6_ruled_81 : decode cX6_ruled 81 = .ok (.goto 10, 3) := by decide +kernel
theorem dX6_ruled_84 : decode cX6_ruled 84 = .ok (.aload_n 0, 1) := by decide +kernel
theorem dX6_ruled_85 : decode cX6_ruled 85 = .ok (.getfield 40, 3) := by decide +kernel
theorem dX6_ruled_88 : decode cX6_ruled 88 = .ok (.iload 5, 2) := by decide +kernel
theorem dX6_ruled_90 : decode cX6_ruled 90 = .ok (.iaload, 1) := by decide +kernel
theorem dX6_ruled_91 : decode cX6_ruled 91 = .ok (.iastore, 1) := by decide +kernel
theorem dX6_ruled_92 : decode cX6_ruled 92 = .ok (.goto 93, 3) := by decide +kernel
theorem dX6_ruled_95 : decode cX6_ruled 95 = .ok (.iload 5, 2) := by decide +kernel
theorem dX6_ruled_97 : decode cX6_ruled 97 = .ok (.bipush 13, 2) := by decide +kernel
theorem dX6_ruled_99 : decode cX6_ruled 99 = .ok (.if_icmp .eq 10, 3) := by decide +kernel
theorem dX6_ruled_102 : decode cX6_ruled 102 = .ok (.iload 5, 2) := by decide +kernel
theorem dX6_ruled_104 : decode cX6_ruled 104 = .ok (.bipush 14, 2) := by decide +kernel
theorem dX6_ruled_106 : decode cX6_ruled 106 = .ok (.if_icmp .ne 49, 3) := by decide +kernel
theorem dX6_ruled_109 : decode cX6_ruled 109 = .ok (.aload_n 0, 1) := by decide +kernel
theorem dX6_ruled_110 : decode cX6_ruled 110 = .ok (.getfield 37, 3) := by decide +kernel
theorem dX6_ruled_113 : decode cX6_ruled 113 = .ok (.iload_n 2, 1) := by decide +kernel
theorem dX6_ruled_114 : decode cX6_ruled 114 = .ok (.iconst 1, 1) := by decide +kernel
theorem dX6_ruled_115 : decode cX6_ruled 115 = .ok (.isub, 1) := by decide +kernel
theorem dX6_ruled_116 : decode cX6_ruled 116 = .ok (.iload 5, 2) := by decide +kernel
theorem dX6_ruled_118 : decode cX6_ruled 118 = .ok (.bipush 14, 2) := by decide +kernel
theorem dX6_ruled_120 : decode cX6_ruled 120 = .ok (.if_icmp .ne 15, 3) := by decide +kernel
theorem dX6_ruled_123 : decode cX6_ruled 123 = .ok (.aload_n 0, 1) := by decide +kernel
theorem dX6_ruled_124 : decode cX6_ruled 124 = .ok (.getfield 37, 3) := by decide +kernel
theorem dX6_ruled_127 : decode cX6_ruled 127 = .ok (.iload_n 2, 1) := by decide +kernel
theorem dX6_ruled_128 : decode cX6_ruled 128 = .ok (.iconst 1, 1) := by decide +kernel
theorem dX6_ruled_129 : decode cX6_ruled 129 = .ok (.isub, 1) := by decide +kernel
theorem dX6_ruled_130 : decode cX6_ruled 130 = .ok (.iaload, 1) := by decide +kernel
theorem dX6_ruled_131 : decode cX6_ruled 131 = .ok (.ineg, 1) := by decide +kernel
theorem dX6_ruled_132 : decode cX6_ruled 132 = .ok (.goto 19, 3) := by decide +kernel
theorem dX6_ruled_135 : decode cX6_ruled 135 = .ok (.aload_n 0, 1) := by decide +kernel
theorem dX6_ruled_136 : decode cX6_ruled 136 = .ok (.getfield 37, 3) := by decide +kernel
theorem dX6_ruled_139 : decode cX6_ruled 139 = .ok (.iload_n 2, 1) := by decide +kernel
theorem dX6_ruled_140 : decode cX6_ruled 140 = .ok (.iconst 1, 1) := by decide +kernel
theorem dX6_ruled_141 : decode cX6_ruled 141 = .ok (.isub, 1) := by decide +kernel
theorem dX6_ruled_142 : decode cX6_ruled 142 = .ok (.iaload, 1) := by decide +kernel
theorem dX6_ruled_143 : decode cX6_ruled 143 = .ok (.ifCond .ne 7, 3) := by decide +kernel
theorem dX6_ruled_146 : decode cX6_ruled 146 = .ok (.iconst 1, 1) := by decide +kernel
theorem dX6_ruled_147 : decode cX6_ruled 147 = .ok (.goto 4, 3) := by decide +kernel
theorem dX6_ruled_150 : decode cX6_ruled 150 = .ok (.iconst 0, 1) := by decide +kernel
theorem dX6_ruled_151 : decode cX6_ruled 151 = .ok (.iastore, 1) := by decide +kernel
theorem dX6_ruled_152 : decode cX6_ruled 152 = .ok (.goto 33, 3) := by decide +kernel
theorem dX6_ruled_155 : decode cX6_ruled 155 = .ok (.iinc 2 (-1), 3) := by decide +kernel
theorem dX6_ruled_158 : decode cX6_ruled 158 = .ok (.aload_n 0, 1) := by decide +kernel
theorem dX6_ruled_159 : decode cX6_ruled 159 = .ok (.getfield 37, 3) := by decide +kernel
theorem dX6_ruled_162 : decode cX6_ruled 162 = .ok (.iload_n 2, 1) := by decide +kernel
theorem dX6_ruled_163 : decode cX6_ruled 163 = .ok (.iconst 1, 1) := by decide +kernel
theorem dX6_ruled_164 : decode cX6_ruled 164 = .ok (.isub, 1) := by decide +kernel
theorem dX6_ruled_165 : decode cX6_ruled 165 = .ok (.iload 5, 2) := by decide +kernel
theorem dX6_ruled_167 : decode cX6_ruled 167 = .ok (.aload_n 0, 1) := by decide +kernel
theorem dX6_ruled_168 : decode cX6_ruled 168 = .ok (.getfield 37, 3) := by decide +kernel
theorem dX6_ruled_171 : decode cX6_ruled 171 = .ok (.iload_n 2, 1) := by decide +kernel
theorem dX6_ruled_172 : decode cX6_ruled 172 = .ok (.iconst 1, 1) := by decide +kernel
theorem dX6_ruled_173 : decode cX6_ruled 173 = .ok (.isub, 1) := by decide +kernel
theorem dX6_ruled_174 : decode cX6_ruled 174 = .ok (.iaload, 1) := by decide +kernel
theorem dX6_ruled_175 : decode cX6_ruled 175 = .ok (.aload_n 0, 1) := by decide +kernel
theorem dX6_ruled_176 : decode cX6_ruled 176 = .ok (.getfield 37, 3) := by decide +kernel
theorem dX6_ruled_179 : decode cX6_ruled 179 = .ok (.iload_n 2, 1) := by decide +kernel
theorem dX6_ruled_180 : decode cX6_ruled 180 = .ok (.iaload, 1) := by decide +kernel
theorem dX6_ruled_181 : decode cX6_ruled 181 = .ok (.invokestatic 214, 3) := by decide +kernel
theorem dX6_ruled_184 : decode cX6_ruled 184 = .ok (.iastore, 1) := by decide +kernel
theorem dX6_ruled_185 : decode cX6_ruled 185 = .ok (.iinc 4 1, 3) := by decide +kernel
theorem dX6_ruled_188 : decode cX6_ruled 188 = .ok (.goto (-169), 3) := by decide +kernel
theorem dX6_ruled_191 : decode cX6_ruled 191 = .ok (.aload_n 0, 1) := by decide +kernel
theorem dX6_ruled_192 : decode cX6_ruled 192 = .ok (.getfield 37, 3) := by decide +kernel
theorem dX6_ruled_195 : decode cX6_ruled 195 = .ok (.iconst 0, 1) := by decide +kernel
theorem dX6_ruled_196 : decode cX6_ruled 196 = .ok (.iaload, 1) := by decide +kernel
theorem dX6_ruled_197 : decode cX6_ruled 197 = .ok (.ireturn, 1) := by decide +kernel
theorem dX6_both_0 : decode cX6_both 0 = .ok (.iload_n 0, 1) := by decide +kernel
theorem dX6_both_1 : decode cX6_both 1 = .ok (.tableswitch 87 6 11 #[39, 43, 47, 51, 62, 73], 39) := by decide +kernel
theorem dX6_both_40 : decode cX6_both 40 = .ok (.iload_n 1, 1) := by decide +kernel
theorem dX6_both_41 : decode cX6_both 41 = .ok (.iload_n 2, 1) := by decide +kernel
theorem dX6_both_42 : decode cX6_both 42 = .ok (.iadd, 1) := by decide +kernel
theorem dX6_both_43 : decode cX6_both 43 = .ok (.ireturn, 1) := by decide +kernel
theorem dX6_both_44 : decode cX6_both 44 = .ok (.iload_n 1, 1) := by decide +kernel
theorem dX6_both_45 : decode cX6_both 45 = .ok (.iload_n 2, 1) := by decide +kernel
theorem dX6_both_46 : decode cX6_both 46 = .ok (.isub, 1) := by decide +kernel
theorem dX6_both_47 : decode cX6_both 47 = .ok (.ireturn, 1) := by decide +kernel
theorem dX6_both_48 : decode cX6_both 48 = .ok (.iload_n 1, 1) := by decide +kernel
theorem dX6_both_49 : decode cX6_both 49 = .ok (.iload_n 2, 1) := by decide +kernel
theorem dX6_both_50 : decode cX6_both 50 = .ok (.imul, 1) := by decide +kernel
theorem dX6_both_51 : decode cX6_both 51 = .ok (.ireturn, 1) := by decide +kernel
theorem dX6_both_52 : decode cX6_both 52 = .ok (.iload_n 1, 1) := by decide +kernel
theorem dX6_both_53 : decode cX6_both 53 = .ok (.iload_n 2, 1) := by decide +kernel
theorem dX6_both_54 : decode cX6_both 54 = .ok (.if_icmp .ge 7, 3) := by decide +kernel
theorem dX6_both_57 : decode cX6_both 57 = .ok (.iconst 1, 1) := by decide +kernel
theorem dX6_both_58 : decode cX6_both 58 = .ok (.goto 4, 3) := by decide +kernel
theorem dX6_both_61 : decode cX6_both 61 = .ok (.iconst 0, 1) := by decide +kernel
theorem dX6_both_62 : decode cX6_both 62 = .ok (.ireturn, 1) := by decide +kernel
theorem dX6_both_63 : decode cX6_both 63 = .ok (.iload_n 1, 1) := by decide +kernel
theorem dX6_both_64 : decode cX6_both 64 = .ok (.iload_n 2, 1) := by decide +kernel
theorem dX6_both_65 : decode cX6_both 65 = .ok (.if_icmp .ne 7, 3) := by decide +kernel
theorem dX6_both_68 : decode cX6_both 68 = .ok (.iconst 1, 1) := by decide +kernel
theorem dX6_both_69 : decode cX6_both 69 = .ok (.goto 4, 3) := by decide +kernel
theorem dX6_both_72 : decode cX6_both 72 = .ok (.iconst 0, 1) := by decide +kernel
theorem dX6_both_73 : decode cX6_both 73 = .ok (.ireturn, 1) := by decide +kernel
theorem dX6_both_74 : decode cX6_both 74 = .ok (.iload_n 1, 1) := by decide +kernel
theorem dX6_both_75 : decode cX6_both 75 = .ok (.ifCond .eq 11, 3) := by decide +kernel
theorem dX6_both_78 : decode cX6_both 78 = .ok (.iload_n 2, 1) := by decide +kernel
theorem dX6_both_79 : decode cX6_both 79 = .ok (.ifCond .eq 7, 3) := by decide +kernel
theorem dX6_both_82 : decode cX6_both 82 = .ok (.iconst 1, 1) := by decide +kernel
theorem dX6_both_83 : decode cX6_both 83 = .ok (.goto 4, 3) := by decide +kernel
theorem dX6_both_86 : decode cX6_both 86 = .ok (.iconst 0, 1) := by decide +kernel
theorem dX6_both_87 : decode cX6_both 87 = .ok (.ireturn, 1) := by decide +kernel
theorem dX6_both_88 : decode cX6_both 88 = .ok (.iload_n 1, 1) := by decide +kernel
theorem dX6_both_89 : decode cX6_both 89 = .ok (.ifCond .ne 7, 3) := by decide +kernel
theorem dX6_both_92 : decode cX6_both 92 = .ok (.iload_n 2, 1) := by decide +kernel
theorem dX6_both_93 : decode cX6_both 93 = .ok (.ifCond .eq 7, 3) := by decide +kernel
theorem dX6_both_96 : decode cX6_both 96 = .ok (.iconst 1, 1) := by decide +kernel
theorem dX6_both_97 : decode cX6_both 97 = .ok (.goto 4, 3) := by decide +kernel
theorem dX6_both_100 : decode cX6_both 100 = .ok (.iconst 0, 1) := by decide +kernel
theorem dX6_both_101 : decode cX6_both 101 = .ok (.ireturn, 1) := by decide +kernel
theorem dX6_mostRue_0 : decode cX6_mostRue 0 = .ok (.iconst 0, 1) := by decide +kernel
theorem dX6_mostRue_1 : decode cX6_mostRue 1 = .ok (.istore_n 1, 1) := by decide +kernel
theorem dX6_mostRue_2 : decode cX6_mostRue 2 = .ok (.iconst 0, 1) := by decide +kernel
theorem dX6_mostRue_3 : decode cX6_mostRue 3 = .ok (.istore_n 2, 1) := by decide +kernel
theorem dX6_mostRue_4 : decode cX6_mostRue 4 = .ok (.iload_n 2, 1) := by decide +kernel
theorem dX6_mostRue_5 : decode cX6_mostRue 5 = .ok (.aload_n 0, 1) := by decide +kernel
theorem dX6_mostRue_6 : decode cX6_mostRue 6 = .ok (.getfield 85, 3) := by decide +kernel
theorem dX6_mostRue_9 : decode cX6_mostRue 9 = .ok (.if_icmp .ge 26, 3) := by decide +kernel
theorem dX6_mostRue_12 : decode cX6_mostRue 12 = .ok (.aload_n 0, 1) := by decide +kernel
theorem dX6_mostRue_13 : decode cX6_mostRue 13 = .ok (.getfield 16, 3) := by decide +kernel
theorem dX6_mostRue_16 : decode cX6_mostRue 16 = .ok (.iload_n 2, 1) := by decide +kernel
theorem dX6_mostRue_17 : decode cX6_mostRue 17 = .ok (.iaload, 1) := by decide +kernel
theorem dX6_mostRue_18 : decode cX6_mostRue 18 = .ok (.iload_n 1, 1) := by decide +kernel
theorem dX6_mostRue_19 : decode cX6_mostRue 19 = .ok (.if_icmp .le 10, 3) := by decide +kernel
theorem dX6_mostRue_22 : decode cX6_mostRue 22 = .ok (.aload_n 0, 1) := by decide +kernel
theorem dX6_mostRue_23 : decode cX6_mostRue 23 = .ok (.getfield 16, 3) := by decide +kernel
theorem dX6_mostRue_26 : decode cX6_mostRue 26 = .ok (.iload_n 2, 1) := by decide +kernel
theorem dX6_mostRue_27 : decode cX6_mostRue 27 = .ok (.iaload, 1) := by decide +kernel
theorem dX6_mostRue_28 : decode cX6_mostRue 28 = .ok (.istore_n 1, 1) := by decide +kernel
theorem dX6_mostRue_29 : decode cX6_mostRue 29 = .ok (.iinc 2 1, 3) := by decide +kernel
theorem dX6_mostRue_32 : decode cX6_mostRue 32 = .ok (.goto (-28), 3) := by decide +kernel
theorem dX6_mostRue_35 : decode cX6_mostRue 35 = .ok (.iload_n 1, 1) := by decide +kernel
theorem dX6_mostRue_36 : decode cX6_mostRue 36 = .ok (.ireturn, 1) := by decide +kernel
theorem dX6_ruledFor_0 : decode cX6_ruledFor 0 = .ok (.aload_n 0, 1) := by decide +kernel
theorem dX6_ruledFor_1 : decode cX6_ruledFor 1 = .ok (.getfield 40, 3) := by decide +kernel
theorem dX6_ruledFor_4 : decode cX6_ruledFor 4 = .ok (.iconst 0, 1) := by decide +kernel
theorem dX6_ruledFor_5 : decode cX6_ruledFor 5 = .ok (.aload_n 0, 1) := by decide +kernel
theorem dX6_ruledFor_6 : decode cX6_ruledFor 6 = .ok (.getfield 16, 3) := by decide +kernel
theorem dX6_ruledFor_9 : decode cX6_ruledFor 9 = .ok (.iload_n 2, 1) := by decide +kernel
theorem dX6_ruledFor_10 : decode cX6_ruledFor 10 = .ok (.iaload, 1) := by decide +kernel
theorem dX6_ruledFor_11 : decode cX6_ruledFor 11 = .ok (.iastore, 1) := by decide +kernel
theorem dX6_ruledFor_12 : decode cX6_ruledFor 12 = .ok (.aload_n 0, 1) := by decide +kernel
theorem dX6_ruledFor_13 : decode cX6_ruledFor 13 = .ok (.getfield 40, 3) := by decide +kernel
theorem dX6_ruledFor_16 : decode cX6_ruledFor 16 = .ok (.iconst 1, 1) := by decide +kernel
theorem dX6_ruledFor_17 : decode cX6_ruledFor 17 = .ok (.aload_n 0, 1) := by decide +kernel
theorem dX6_ruledFor_18 : decode cX6_ruledFor 18 = .ok (.getfield 13, 3) := by decide +kernel
theorem dX6_ruledFor_21 : decode cX6_ruledFor 21 = .ok (.iload_n 2, 1) := by decide +kernel
theorem dX6_ruledFor_22 : decode cX6_ruledFor 22 = .ok (.iaload, 1) := by decide +kernel
theorem dX6_ruledFor_23 : decode cX6_ruledFor 23 = .ok (.iastore, 1) := by decide +kernel
theorem dX6_ruledFor_24 : decode cX6_ruledFor 24 = .ok (.aload_n 0, 1) := by decide +kernel
theorem dX6_ruledFor_25 : decode cX6_ruledFor 25 = .ok (.getfield 40, 3) := by decide +kernel
theorem dX6_ruledFor_28 : decode cX6_ruledFor 28 = .ok (.iconst 2, 1) := by decide +kernel
theorem dX6_ruledFor_29 : decode cX6_ruledFor 29 = .ok (.aload_n 0, 1) := by decide +kernel
theorem dX6_ruledFor_30 : decode cX6_ruledFor 30 = .ok (.getfield 99, 3) := by decide +kernel
theorem dX6_ruledFor_33 : decode cX6_ruledFor 33 = .ok (.iastore, 1) := by decide +kernel
theorem dX6_ruledFor_34 : decode cX6_ruledFor 34 = .ok (.aload_n 0, 1) := by decide +kernel
theorem dX6_ruledFor_35 : decode cX6_ruledFor 35 = .ok (.getfield 40, 3) := by decide +kernel
theorem dX6_ruledFor_38 : decode cX6_ruledFor 38 = .ok (.iconst 3, 1) := by decide +kernel
theorem dX6_ruledFor_39 : decode cX6_ruledFor 39 = .ok (.aload_n 0, 1) := by decide +kernel
theorem dX6_ruledFor_40 : decode cX6_ruledFor 40 = .ok (.getfield 96, 3) := by decide +kernel
theorem dX6_ruledFor_43 : decode cX6_ruledFor 43 = .ok (.iastore, 1) := by decide +kernel
theorem dX6_ruledFor_44 : decode cX6_ruledFor 44 = .ok (.aload_n 0, 1) := by decide +kernel
theorem dX6_ruledFor_45 : decode cX6_ruledFor 45 = .ok (.getfield 40, 3) := by decide +kernel
theorem dX6_ruledFor_48 : decode cX6_ruledFor 48 = .ok (.iconst 4, 1) := by decide +kernel
theorem dX6_ruledFor_49 : decode cX6_ruledFor 49 = .ok (.aload_n 0, 1) := by decide +kernel
theorem dX6_ruledFor_50 : decode cX6_ruledFor 50 = .ok (.getfield 19, 3) := by decide +kernel
theorem dX6_ruledFor_53 : decode cX6_ruledFor 53 = .ok (.iload_n 2, 1) := by decide +kernel
theorem dX6_ruledFor_54 : decode cX6_ruledFor 54 = .ok (.iaload, 1) := by decide +kernel
theorem dX6_ruledFor_55 : decode cX6_ruledFor 55 = .ok (.iastore, 1) := by decide +kernel
theorem dX6_ruledFor_56 : decode cX6_ruledFor 56 = .ok (.aload_n 0, 1) := by decide +kernel
theorem dX6_ruledFor_57 : decode cX6_ruledFor 57 = .ok (.getfield 40, 3) := by decide +kernel
theorem dX6_ruledFor_60 : decode cX6_ruledFor 60 = .ok (.iconst 5, 1) := by decide +kernel
theorem dX6_ruledFor_61 : decode cX6_ruledFor 61 = .ok (.aload_n 0, 1) := by decide +kernel
theorem dX6_ruledFor_62 : decode cX6_ruledFor 62 = .ok (.invokevirtual 218, 3) := by decide +kernel
theorem dX6_ruledFor_65 : decode cX6_ruledFor 65 = .ok (.iastore, 1) := by decide +kernel
theorem dX6_ruledFor_66 : decode cX6_ruledFor 66 = .ok (.aload_n 0, 1) := by decide +kernel
theorem dX6_ruledFor_67 : decode cX6_ruledFor 67 = .ok (.iload_n 1, 1) := by decide +kernel
theorem dX6_ruledFor_68 : decode cX6_ruledFor 68 = .ok (.invokevirtual 221, 3) := by decide +kernel
theorem dX6_ruledFor_71 : decode cX6_ruledFor 71 = .ok (.ireturn, 1) := by decide +kernel
theorem dX6_runsOf_0 : decode cX6_runsOf 0 = .ok (.aload_n 0, 1) := by decide +kernel
theorem dX6_runsOf_1 : decode cX6_runsOf 1 = .ok (.iconst 0, 1) := by decide +kernel
theorem dX6_runsOf_2 : decode cX6_runsOf 2 = .ok (.iload_n 1, 1) := by decide +kernel
theorem dX6_runsOf_3 : decode cX6_runsOf 3 = .ok (.invokevirtual 224, 3) := by decide +kernel
theorem dX6_runsOf_6 : decode cX6_runsOf 6 = .ok (.iconst 0, 1) := by decide +kernel
theorem dX6_runsOf_7 : decode cX6_runsOf 7 = .ok (.bipush 99, 2) := by decide +kernel
theorem dX6_runsOf_9 : decode cX6_runsOf 9 = .ok (.invokestatic 227, 3) := by decide +kernel
theorem dX6_runsOf_12 : decode cX6_runsOf 12 = .ok (.istore_n 2, 1) := by decide +kernel
theorem dX6_runsOf_13 : decode cX6_runsOf 13 = .ok (.iload_n 2, 1) := by decide +kernel
theorem dX6_runsOf_14 : decode cX6_runsOf 14 = .ok (.istore_n 3, 1) := by decide +kernel
theorem dX6_runsOf_15 : decode cX6_runsOf 15 = .ok (.aload_n 0, 1) := by decide +kernel
theorem dX6_runsOf_16 : decode cX6_runsOf 16 = .ok (.getfield 7, 3) := by decide +kernel
theorem dX6_runsOf_19 : decode cX6_runsOf 19 = .ok (.iload_n 1, 1) := by decide +kernel
theorem dX6_runsOf_20 : decode cX6_runsOf 20 = .ok (.iaload, 1) := by decide +kernel
theorem dX6_runsOf_21 : decode cX6_runsOf 21 = .ok (.tableswitch 104 1 5 #[35, 42, 49, 66, 94], 35) := by decide +kernel
theorem dX6_runsOf_56 : decode cX6_runsOf 56 = .ok (.iload_n 2, 1) := by decide +kernel
theorem dX6_runsOf_57 : decode cX6_runsOf 57 = .ok (.iconst 1, 1) := by decide +kernel
theorem dX6_runsOf_58 : decode cX6_runsOf 58 = .ok (.iadd, 1) := by decide +kernel
theorem dX6_runsOf_59 : decode cX6_runsOf 59 = .ok (.istore_n 3, 1) := by decide +kernel
theorem dX6_runsOf_60 : decode cX6_runsOf 60 = .ok (.goto 65, 3) := by decide +kernel
theorem dX6_runsOf_63 : decode cX6_runsOf 63 = .ok (.iload_n 2, 1) := by decide +kernel
theorem dX6_runsOf_64 : decode cX6_runsOf 64 = .ok (.iconst 2, 1) := by decide +kernel
theorem dX6_runsOf_65 : decode cX6_runsOf 65 = .ok (.idiv, 1) := by decide +kernel
theorem dX6_runsOf_66 : decode cX6_runsOf 66 = .ok (.istore_n 3, 1) := by decide +kernel
theorem dX6_runsOf_67 : decode cX6_runsOf 67 = .ok (.goto 58, 3) := by decide +kernel
theorem dX6_runsOf_70 : decode cX6_runsOf 70 = .ok (.iload_n 2, 1) := by decide +kernel
theorem dX6_runsOf_71 : decode cX6_runsOf 71 = .ok (.iconst 1, 1) := by decide +kernel
theorem dX6_runsOf_72 : decode cX6_runsOf 72 = .ok (.iadd, 1) := by decide +kernel
theorem dX6_runsOf_73 : decode cX6_runsOf 73 = .ok (.aload_n 0, 1) := by decide +kernel
theorem dX6_runsOf_74 : decode cX6_runsOf 74 = .ok (.getfield 19, 3) := by decide +kernel
theorem dX6_runsOf_77 : decode cX6_runsOf 77 = .ok (.iload_n 1, 1) := by decide +kernel
theorem dX6_runsOf_78 : decode cX6_runsOf 78 = .ok (.iaload, 1) := by decide +kernel
theorem dX6_runsOf_79 : decode cX6_runsOf 79 = .ok (.bipush 10, 2) := by decide +kernel
theorem dX6_runsOf_81 : decode cX6_runsOf 81 = .ok (.idiv, 1) := by decide +kernel
theorem dX6_runsOf_82 : decode cX6_runsOf 82 = .ok (.isub, 1) := by decide +kernel
theorem dX6_runsOf_83 : decode cX6_runsOf 83 = .ok (.istore_n 3, 1) := by decide +kernel
theorem dX6_runsOf_84 : decode cX6_runsOf 84 = .ok (.goto 41, 3) := by decide +kernel
theorem dX6_runsOf_87 : decode cX6_runsOf 87 = .ok (.aload_n 0, 1) := by decide +kernel
theorem dX6_runsOf_88 : decode cX6_runsOf 88 = .ok (.getfield 96, 3) := by decide +kernel
theorem dX6_runsOf_91 : decode cX6_runsOf 91 = .ok (.bipush 7, 2) := by decide +kernel
theorem dX6_runsOf_93 : decode cX6_runsOf 93 = .ok (.irem, 1) := by decide +kernel
theorem dX6_runsOf_94 : decode cX6_runsOf 94 = .ok (.aload_n 0, 1) := by decide +kernel
theorem dX6_runsOf_95 : decode cX6_runsOf 95 = .ok (.getfield 13, 3) := by decide +kernel
theorem dX6_runsOf_98 : decode cX6_runsOf 98 = .ok (.iload_n 1, 1) := by decide +kernel
theorem dX6_runsOf_99 : decode cX6_runsOf 99 = .ok (.iaload, 1) := by decide +kernel
theorem dX6_runsOf_100 : decode cX6_runsOf 100 = .ok (.if_icmp .ne 8, 3) := by decide +kernel
theorem dX6_runsOf_103 : decode cX6_runsOf 103 = .ok (.bipush 9, 2) := by decide +kernel
theorem dX6_runsOf_105 : decode cX6_runsOf 105 = .ok (.goto 6, 3) := by decide +kernel
theorem dX6_runsOf_108 : decode cX6_runsOf 108 = .ok (.iload_n 2, 1) := by decide +kernel
theorem dX6_runsOf_109 : decode cX6_runsOf 109 = .ok (.iconst 2, 1) := by decide +kernel
theorem dX6_runsOf_110 : decode cX6_runsOf 110 = .ok (.idiv, 1) := by decide +kernel
theorem dX6_runsOf_111 : decode cX6_runsOf 111 = .ok (.istore_n 3, 1) := by decide +kernel
theorem dX6_runsOf_112 : decode cX6_runsOf 112 = .ok (.goto 13, 3) := by decide +kernel
theorem dX6_runsOf_115 : decode cX6_runsOf 115 = .ok (.aload_n 0, 1) := by decide +kernel
theorem dX6_runsOf_116 : decode cX6_runsOf 116 = .ok (.getfield 13, 3) := by decide +kernel
theorem dX6_runsOf_119 : decode cX6_runsOf 119 = .ok (.iload_n 1, 1) := by decide +kernel
theorem dX6_runsOf_120 : decode cX6_runsOf 120 = .ok (.iaload, 1) := by decide +kernel
theorem dX6_runsOf_121 : decode cX6_runsOf 121 = .ok (.istore_n 3, 1) := by decide +kernel
theorem dX6_runsOf_122 : decode cX6_runsOf 122 = .ok (.goto 3, 3) := by decide +kernel
theorem dX6_runsOf_125 : decode cX6_runsOf 125 = .ok (.iload_n 3, 1) := by decide +kernel
theorem dX6_runsOf_126 : decode cX6_runsOf 126 = .ok (.iconst 0, 1) := by decide +kernel
theorem dX6_runsOf_127 : decode cX6_runsOf 127 = .ok (.bipush 9, 2) := by decide +kernel
theorem dX6_runsOf_129 : decode cX6_runsOf 129 = .ok (.invokestatic 227, 3) := by decide +kernel
theorem dX6_runsOf_132 : decode cX6_runsOf 132 = .ok (.ireturn, 1) := by decide +kernel
theorem dX6_isClogged_0 : decode cX6_isClogged 0 = .ok (.aload_n 0, 1) := by decide +kernel
theorem dX6_isClogged_1 : decode cX6_isClogged 1 = .ok (.iconst 1, 1) := by decide +kernel
theorem dX6_isClogged_2 : decode cX6_isClogged 2 = .ok (.iload_n 1, 1) := by decide +kernel
theorem dX6_isClogged_3 : decode cX6_isClogged 3 = .ok (.invokevirtual 224, 3) := by decide +kernel
theorem dX6_isClogged_6 : decode cX6_isClogged 6 = .ok (.ifCond .eq 7, 3) := by decide +kernel
theorem dX6_isClogged_9 : decode cX6_isClogged 9 = .ok (.iconst 1, 1) := by decide +kernel
theorem dX6_isClogged_10 : decode cX6_isClogged 10 = .ok (.goto 4, 3) := by decide +kernel
theorem dX6_isClogged_13 : decode cX6_isClogged 13 = .ok (.iconst 0, 1) := by decide +kernel
theorem dX6_isClogged_14 : decode cX6_isClogged 14 = .ok (.istore_n 2, 1) := by decide +kernel
theorem dX6_isClogged_15 : decode cX6_isClogged 15 = .ok (.aload_n 0, 1) := by decide +kernel
theorem dX6_isClogged_16 : decode cX6_isClogged 16 = .ok (.getfield 7, 3) := by decide +kernel
theorem dX6_isClogged_19 : decode cX6_isClogged 19 = .ok (.iload_n 1, 1) := by decide +kernel
theorem dX6_isClogged_20 : decode cX6_isClogged 20 = .ok (.iaload, 1) := by decide +kernel
theorem dX6_isClogged_21 : decode cX6_isClogged 21 = .ok (.tableswitch 80 1 4 #[31, 49, 51, 49], 31) := by decide +kernel
theorem dX6_isClogged_52 : decode cX6_isClogged 52 = .ok (.iload_n 2, 1) := by decide +kernel
theorem dX6_isClogged_53 : decode cX6_isClogged 53 = .ok (.ifCond .eq 15, 3) := by decide +kernel
theorem dX6_isClogged_56 : decode cX6_isClogged 56 = .ok (.aload_n 0, 1) := by decide +kernel
theorem dX6_isClogged_57 : decode cX6_isClogged 57 = .ok (.getfield 99, 3) := by decide +kernel
theorem dX6_isClogged_60 : decode cX6_isClogged 60 = .ok (.iconst 3, 1) := by decide +kernel
theorem dX6_isClogged_61 : decode cX6_isClogged 61 = .ok (.if_icmp .le 7, 3) := by decide +kernel
theorem dX6_isClogged_64 : decode cX6_isClogged 64 = .ok (.iconst 1, 1) := by decide +kernel
theorem dX6_isClogged_65 : decode cX6_isClogged 65 = .ok (.goto 4, 3) := by decide +kernel
theorem dX6_isClogged_68 : decode cX6_isClogged 68 = .ok (.iconst 0, 1) := by decide +kernel
theorem dX6_isClogged_69 : decode cX6_isClogged 69 = .ok (.ireturn, 1) := by decide +kernel
theorem dX6_isClogged_70 : decode cX6_isClogged 70 = .ok (.iconst 0, 1) := by decide +kernel
theorem dX6_isClogged_71 : decode cX6_isClogged 71 = .ok (.ireturn, 1) := by decide +kernel
theorem dX6_isClogged_72 : decode cX6_isClogged 72 = .ok (.iload_n 2, 1) := by decide +kernel
theorem dX6_isClogged_73 : decode cX6_isClogged 73 = .ok (.ifCond .eq 11, 3) := by decide +kernel
theorem dX6_isClogged_76 : decode cX6_isClogged 76 = .ok (.aload_n 0, 1) := by decide +kernel
theorem dX6_isClogged_77 : decode cX6_isClogged 77 = .ok (.getfield 99, 3) := by decide +kernel
theorem dX6_isClogged_80 : decode cX6_isClogged 80 = .ok (.iconst 3, 1) := by decide +kernel
theorem dX6_isClogged_81 : decode cX6_isClogged 81 = .ok (.if_icmp .gt 14, 3) := by decide +kernel
theorem dX6_isClogged_84 : decode cX6_isClogged 84 = .ok (.aload_n 0, 1) := by decide +kernel
theorem dX6_isClogged_85 : decode cX6_isClogged 85 = .ok (.getfield 19, 3) := by decide +kernel
theorem dX6_isClogged_88 : decode cX6_isClogged 88 = .ok (.iload_n 1, 1) := by decide +kernel
theorem dX6_isClogged_89 : decode cX6_isClogged 89 = .ok (.iaload, 1) := by decide +kernel
theorem dX6_isClogged_90 : decode cX6_isClogged 90 = .ok (.bipush 50, 2) := by decide +kernel
theorem dX6_isClogged_92 : decode cX6_isClogged 92 = .ok (.if_icmp .le 7, 3) := by decide +kernel
theorem dX6_isClogged_95 : decode cX6_isClogged 95 = .ok (.iconst 1, 1) := by decide +kernel
theorem dX6_isClogged_96 : decode cX6_isClogged 96 = .ok (.goto 4, 3) := by decide +kernel
theorem dX6_isClogged_99 : decode cX6_isClogged 99 = .ok (.iconst 0, 1) := by decide +kernel
theorem dX6_isClogged_100 : decode cX6_isClogged 100 = .ok (.ireturn, 1) := by decide +kernel
theorem dX6_isClogged_101 : decode cX6_isClogged 101 = .ok (.iload_n 2, 1) := by decide +kernel
theorem dX6_isClogged_102 : decode cX6_isClogged 102 = .ok (.ireturn, 1) := by decide +kernel
theorem dX6_ruesOf_0 : decode cX6_ruesOf 0 = .ok (.aload_n 0, 1) := by decide +kernel
theorem dX6_ruesOf_1 : decode cX6_ruesOf 1 = .ok (.iconst 2, 1) := by decide +kernel
theorem dX6_ruesOf_2 : decode cX6_ruesOf 2 = .ok (.iload_n 1, 1) := by decide +kernel
theorem dX6_ruesOf_3 : decode cX6_ruesOf 3 = .ok (.invokevirtual 224, 3) := by decide +kernel
theorem dX6_ruesOf_6 : decode cX6_ruesOf 6 = .ok (.iconst 0, 1) := by decide +kernel
theorem dX6_ruesOf_7 : decode cX6_ruesOf 7 = .ok (.bipush 99, 2) := by decide +kernel
theorem dX6_ruesOf_9 : decode cX6_ruesOf 9 = .ok (.invokestatic 227, 3) := by decide +kernel
theorem dX6_ruesOf_12 : decode cX6_ruesOf 12 = .ok (.istore_n 2, 1) := by decide +kernel
theorem dX6_ruesOf_13 : decode cX6_ruesOf 13 = .ok (.aload_n 0, 1) := by decide +kernel
theorem dX6_ruesOf_14 : decode cX6_ruesOf 14 = .ok (.getfield 7, 3) := by decide +kernel
theorem dX6_ruesOf_17 : decode cX6_ruesOf 17 = .ok (.iload_n 1, 1) := by decide +kernel
theorem dX6_ruesOf_18 : decode cX6_ruesOf 18 = .ok (.iaload, 1) := by decide +kernel
theorem dX6_ruesOf_19 : decode cX6_ruesOf 19 = .ok (.tableswitch 71 1 5 #[33, 43, 45, 62, 64], 33) := by decide +kernel
theorem dX6_ruesOf_52 : decode cX6_ruesOf 52 = .ok (.iconst 2, 1) := by decide +kernel
theorem dX6_ruesOf_53 : decode cX6_ruesOf 53 = .ok (.iload_n 2, 1) := by decide +kernel
theorem dX6_ruesOf_54 : decode cX6_ruesOf 54 = .ok (.imul, 1) := by decide +kernel
theorem dX6_ruesOf_55 : decode cX6_ruesOf 55 = .ok (.iconst 0, 1) := by decide +kernel
theorem dX6_ruesOf_56 : decode cX6_ruesOf 56 = .ok (.bipush 99, 2) := by decide +kernel
theorem dX6_ruesOf_58 : decode cX6_ruesOf 58 = .ok (.invokestatic 227, 3) := by decide +kernel
theorem dX6_ruesOf_61 : decode cX6_ruesOf 61 = .ok (.ireturn, 1) := by decide +kernel
theorem dX6_ruesOf_62 : decode cX6_ruesOf 62 = .ok (.iconst 0, 1) := by decide +kernel
theorem dX6_ruesOf_63 : decode cX6_ruesOf 63 = .ok (.ireturn, 1) := by decide +kernel
theorem dX6_ruesOf_64 : decode cX6_ruesOf 64 = .ok (.iconst 2, 1) := by decide +kernel
theorem dX6_ruesOf_65 : decode cX6_ruesOf 65 = .ok (.iload_n 2, 1) := by decide +kernel
theorem dX6_ruesOf_66 : decode cX6_ruesOf 66 = .ok (.imul, 1) := by decide +kernel
theorem dX6_ruesOf_67 : decode cX6_ruesOf 67 = .ok (.aload_n 0, 1) := by decide +kernel
theorem dX6_ruesOf_68 : decode cX6_ruesOf 68 = .ok (.getfield 13, 3) := by decide +kernel
theorem dX6_ruesOf_71 : decode cX6_ruesOf 71 = .ok (.iload_n 1, 1) := by decide +kernel
theorem dX6_ruesOf_72 : decode cX6_ruesOf 72 = .ok (.iaload, 1) := by decide +kernel
theorem dX6_ruesOf_73 : decode cX6_ruesOf 73 = .ok (.iadd, 1) := by decide +kernel
theorem dX6_ruesOf_74 : decode cX6_ruesOf 74 = .ok (.iconst 0, 1) := by decide +kernel
theorem dX6_ruesOf_75 : decode cX6_ruesOf 75 = .ok (.bipush 99, 2) := by decide +kernel
theorem dX6_ruesOf_77 : decode cX6_ruesOf 77 = .ok (.invokestatic 227, 3) := by decide +kernel
theorem dX6_ruesOf_80 : decode cX6_ruesOf 80 = .ok (.ireturn, 1) := by decide +kernel
theorem dX6_ruesOf_81 : decode cX6_ruesOf 81 = .ok (.iconst 1, 1) := by decide +kernel
theorem dX6_ruesOf_82 : decode cX6_ruesOf 82 = .ok (.ireturn, 1) := by decide +kernel
theorem dX6_ruesOf_83 : decode cX6_ruesOf 83 = .ok (.iload_n 2, 1) := by decide +kernel
theorem dX6_ruesOf_84 : decode cX6_ruesOf 84 = .ok (.iconst 0, 1) := by decide +kernel
theorem dX6_ruesOf_85 : decode cX6_ruesOf 85 = .ok (.iconst 5, 1) := by decide +kernel
theorem dX6_ruesOf_86 : decode cX6_ruesOf 86 = .ok (.invokestatic 227, 3) := by decide +kernel
theorem dX6_ruesOf_89 : decode cX6_ruesOf 89 = .ok (.ireturn, 1) := by decide +kernel
theorem dX6_ruesOf_90 : decode cX6_ruesOf 90 = .ok (.iload_n 2, 1) := by decide +kernel
theorem dX6_ruesOf_91 : decode cX6_ruesOf 91 = .ok (.ireturn, 1) := by decide +kernel
theorem dX6_minutes_0 : decode cX6_minutes 0 = .ok (.aload_n 0, 1) := by decide +kernel
theorem dX6_minutes_1 : decode cX6_minutes 1 = .ok (.iload_n 1, 1) := by decide +kernel
theorem dX6_minutes_2 : decode cX6_minutes 2 = .ok (.invokevirtual 114, 3) := by decide +kernel
theorem dX6_minutes_5 : decode cX6_minutes 5 = .ok (.ifCond .eq 7, 3) := by decide +kernel
theorem dX6_minutes_8 : decode cX6_minutes 8 = .ok (.iconst 0, 1) := by decide +kernel
theorem dX6_minutes_9 : decode cX6_minutes 9 = .ok (.goto 8, 3) := by decide +kernel
theorem dX6_minutes_12 : decode cX6_minutes 12 = .ok (.aload_n 0, 1) := by decide +kernel
theorem dX6_minutes_13 : decode cX6_minutes 13 = .ok (.iload_n 1, 1) := by decide +kernel
theorem dX6_minutes_14 : decode cX6_minutes 14 = .ok (.invokevirtual 110, 3) := by decide +kernel
theorem dX6_minutes_17 : decode cX6_minutes 17 = .ok (.ireturn, 1) := by decide +kernel
theorem dX6_goes_0 : decode cX6_goes 0 = .ok (.iconst 0, 1) := by decide +kernel
theorem dX6_goes_1 : decode cX6_goes 1 = .ok (.istore_n 1, 1) := by decide +kernel
theorem dX6_goes_2 : decode cX6_goes 2 = .ok (.iload_n 1, 1) := by decide +kernel
theorem dX6_goes_3 : decode cX6_goes 3 = .ok (.aload_n 0, 1) := by decide +kernel
theorem dX6_goes_4 : decode cX6_goes 4 = .ok (.getfield 85, 3) := by decide +kernel
theorem dX6_goes_7 : decode cX6_goes 7 = .ok (.if_icmp .ge 20, 3) := by decide +kernel
theorem dX6_goes_10 : decode cX6_goes 10 = .ok (.aload_n 0, 1) := by decide +kernel
theorem dX6_goes_11 : decode cX6_goes 11 = .ok (.getfield 49, 3) := by decide +kernel
theorem dX6_goes_14 : decode cX6_goes 14 = .ok (.iload_n 1, 1) := by decide +kernel
theorem dX6_goes_15 : decode cX6_goes 15 = .ok (.aload_n 0, 1) := by decide +kernel
theorem dX6_goes_16 : decode cX6_goes 16 = .ok (.iload_n 1, 1) := by decide +kernel
theorem dX6_goes_17 : decode cX6_goes 17 = .ok (.invokevirtual 117, 3) := by decide +kernel
theorem dX6_goes_20 : decode cX6_goes 20 = .ok (.iastore, 1) := by decide +kernel
theorem dX6_goes_21 : decode cX6_goes 21 = .ok (.iinc 1 1, 3) := by decide +kernel
theorem dX6_goes_24 : decode cX6_goes 24 = .ok (.goto (-22), 3) := by decide +kernel
theorem dX6_goes_27 : decode cX6_goes 27 = .ok (.iconst 0, 1) := by decide +kernel
theorem dX6_goes_28 : decode cX6_goes 28 = .ok (.istore_n 1, 1) := by decide +kernel
theorem dX6_goes_29 : decode cX6_goes 29 = .ok (.iload_n 1, 1) := by decide +kernel
theorem dX6_goes_30 : decode cX6_goes 30 = .ok (.aload_n 0, 1) := by decide +kernel
theorem dX6_goes_31 : decode cX6_goes 31 = .ok (.getfield 85, 3) := by decide +kernel
theorem dX6_goes_34 : decode cX6_goes 34 = .ok (.if_icmp .ge 35, 3) := by decide +kernel
theorem dX6_goes_37 : decode cX6_goes 37 = .ok (.aload_n 0, 1) := by decide +kernel
theorem dX6_goes_38 : decode cX6_goes 38 = .ok (.getfield 16, 3) := by decide +kernel
theorem dX6_goes_41 : decode cX6_goes 41 = .ok (.iload_n 1, 1) := by decide +kernel
theorem dX6_goes_42 : decode cX6_goes 42 = .ok (.aload_n 0, 1) := by decide +kernel
theorem dX6_goes_43 : decode cX6_goes 43 = .ok (.getfield 16, 3) := by decide +kernel
theorem dX6_goes_46 : decode cX6_goes 46 = .ok (.iload_n 1, 1) := by decide +kernel
theorem dX6_goes_47 : decode cX6_goes 47 = .ok (.iaload, 1) := by decide +kernel
theorem dX6_goes_48 : decode cX6_goes 48 = .ok (.aload_n 0, 1) := by decide +kernel
theorem dX6_goes_49 : decode cX6_goes 49 = .ok (.getfield 49, 3) := by decide +kernel
theorem dX6_goes_52 : decode cX6_goes 52 = .ok (.iload_n 1, 1) := by decide +kernel
theorem dX6_goes_53 : decode cX6_goes 53 = .ok (.iaload, 1) := by decide +kernel
theorem dX6_goes_54 : decode cX6_goes 54 = .ok (.iadd, 1) := by decide +kernel
theorem dX6_goes_55 : decode cX6_goes 55 = .ok (.iconst 0, 1) := by decide +kernel
theorem dX6_goes_56 : decode cX6_goes 56 = .ok (.sipush 999, 3) := by decide +kernel
theorem dX6_goes_59 : decode cX6_goes 59 = .ok (.invokestatic 227, 3) := by decide +kernel
theorem dX6_goes_62 : decode cX6_goes 62 = .ok (.iastore, 1) := by decide +kernel
theorem dX6_goes_63 : decode cX6_goes 63 = .ok (.iinc 1 1, 3) := by decide +kernel
theorem dX6_goes_66 : decode cX6_goes 66 = .ok (.goto (-37), 3) := by decide +kernel
theorem dX6_goes_69 : decode cX6_goes 69 = .ok (.aload_n 0, 1) := by decide +kernel
theorem dX6_goes_70 : decode cX6_goes 70 = .ok (.dup, 1) := by decide +kernel
theorem dX6_goes_71 : decode cX6_goes 71 = .ok (.getfield 96, 3) := by decide +kernel
theorem dX6_goes_74 : decode cX6_goes 74 = .ok (.iconst 1, 1) := by decide +kernel
theorem dX6_goes_75 : decode cX6_goes 75 = .ok (.iadd, 1) := by decide +kernel
theorem dX6_goes_76 : decode cX6_goes 76 = .ok (.putfield 96, 3) := by decide +kernel
theorem dX6_goes_79 : decode cX6_goes 79 = .ok (.return_, 1) := by decide +kernel
theorem dX6_allRue_0 : decode cX6_allRue 0 = .ok (.iconst 0, 1) := by decide +kernel
theorem dX6_allRue_1 : decode cX6_allRue 1 = .ok (.istore_n 1, 1) := by decide +kernel
theorem dX6_allRue_2 : decode cX6_allRue 2 = .ok (.iconst 0, 1) := by decide +kernel
theorem dX6_allRue_3 : decode cX6_allRue 3 = .ok (.istore_n 2, 1) := by decide +kernel
theorem dX6_allRue_4 : decode cX6_allRue 4 = .ok (.iload_n 2, 1) := by decide +kernel
theorem dX6_allRue_5 : decode cX6_allRue 5 = .ok (.aload_n 0, 1) := by decide +kernel
theorem dX6_allRue_6 : decode cX6_allRue 6 = .ok (.getfield 85, 3) := by decide +kernel
theorem dX6_allRue_9 : decode cX6_allRue 9 = .ok (.if_icmp .ge 18, 3) := by decide +kernel
theorem dX6_allRue_12 : decode cX6_allRue 12 = .ok (.iload_n 1, 1) := by decide +kernel
theorem dX6_allRue_13 : decode cX6_allRue 13 = .ok (.aload_n 0, 1) := by decide +kernel
theorem dX6_allRue_14 : decode cX6_allRue 14 = .ok (.getfield 16, 3) := by decide +kernel
theorem dX6_allRue_17 : decode cX6_allRue 17 = .ok (.iload_n 2, 1) := by decide +kernel
theorem dX6_allRue_18 : decode cX6_allRue 18 = .ok (.iaload, 1) := by decide +kernel
theorem dX6_allRue_19 : decode cX6_allRue 19 = .ok (.iadd, 1) := by decide +kernel
theorem dX6_allRue_20 : decode cX6_allRue 20 = .ok (.istore_n 1, 1) := by decide +kernel
theorem dX6_allRue_21 : decode cX6_allRue 21 = .ok (.iinc 2 1, 3) := by decide +kernel
theorem dX6_allRue_24 : decode cX6_allRue 24 = .ok (.goto (-20), 3) := by decide +kernel
theorem dX6_allRue_27 : decode cX6_allRue 27 = .ok (.iload_n 1, 1) := by decide +kernel
theorem dX6_allRue_28 : decode cX6_allRue 28 = .ok (.ireturn, 1) := by decide +kernel
theorem dX6_day_0 : decode cX6_day 0 = .ok (.aload_n 0, 1) := by decide +kernel
theorem dX6_day_1 : decode cX6_day 1 = .ok (.getfield 96, 3) := by decide +kernel
theorem dX6_day_4 : decode cX6_day 4 = .ok (.sipush 999, 3) := by decide +kernel
theorem dX6_day_7 : decode cX6_day 7 = .ok (.if_icmp .ne 6, 3) := by decide +kernel
theorem dX6_day_10 : decode cX6_day 10 = .ok (.bipush (-3), 2) := by decide +kernel
theorem dX6_day_12 : decode cX6_day 12 = .ok (.ireturn, 1) := by decide +kernel
theorem dX6_day_13 : decode cX6_day 13 = .ok (.aload_n 0, 1) := by decide +kernel
theorem dX6_day_14 : decode cX6_day 14 = .ok (.invokevirtual 230, 3) := by decide +kernel
theorem dX6_day_17 : decode cX6_day 17 = .ok (.aload_n 0, 1) := by decide +kernel
theorem dX6_day_18 : decode cX6_day 18 = .ok (.invokevirtual 233, 3) := by decide +kernel
theorem dX6_day_21 : decode cX6_day 21 = .ok (.ireturn, 1) := by decide +kernel
theorem dX6_drawsOff_0 : decode cX6_drawsOff 0 = .ok (.aload_n 0, 1) := by decide +kernel
theorem dX6_drawsOff_1 : decode cX6_drawsOff 1 = .ok (.getfield 16, 3) := by decide +kernel
theorem dX6_drawsOff_4 : decode cX6_drawsOff 4 = .ok (.iload_n 1, 1) := by decide +kernel
theorem dX6_drawsOff_5 : decode cX6_drawsOff 5 = .ok (.dup2, 1) := by decide +kernel
theorem dX6_drawsOff_6 : decode cX6_drawsOff 6 = .ok (.iaload, 1) := by decide +kernel
theorem dX6_drawsOff_7 : decode cX6_drawsOff 7 = .ok (.iload_n 3, 1) := by decide +kernel
theorem dX6_drawsOff_8 : decode cX6_drawsOff 8 = .ok (.isub, 1) := by decide +kernel
theorem dX6_drawsOff_9 : decode cX6_drawsOff 9 = .ok (.iastore, 1) := by decide +kernel
theorem dX6_drawsOff_10 : decode cX6_drawsOff 10 = .ok (.aload_n 0, 1) := by decide +kernel
theorem dX6_drawsOff_11 : decode cX6_drawsOff 11 = .ok (.getfield 16, 3) := by decide +kernel
theorem dX6_drawsOff_14 : decode cX6_drawsOff 14 = .ok (.iload_n 2, 1) := by decide +kernel
theorem dX6_drawsOff_15 : decode cX6_drawsOff 15 = .ok (.aload_n 0, 1) := by decide +kernel
theorem dX6_drawsOff_16 : decode cX6_drawsOff 16 = .ok (.getfield 16, 3) := by decide +kernel
theorem dX6_drawsOff_19 : decode cX6_drawsOff 19 = .ok (.iload_n 2, 1) := by decide +kernel
theorem dX6_drawsOff_20 : decode cX6_drawsOff 20 = .ok (.iaload, 1) := by decide +kernel
theorem dX6_drawsOff_21 : decode cX6_drawsOff 21 = .ok (.iload_n 3, 1) := by decide +kernel
theorem dX6_drawsOff_22 : decode cX6_drawsOff 22 = .ok (.iadd, 1) := by decide +kernel
theorem dX6_drawsOff_23 : decode cX6_drawsOff 23 = .ok (.iconst 0, 1) := by decide +kernel
theorem dX6_drawsOff_24 : decode cX6_drawsOff 24 = .ok (.sipush 999, 3) := by decide +kernel
theorem dX6_drawsOff_27 : decode cX6_drawsOff 27 = .ok (.invokestatic 227, 3) := by decide +kernel
theorem dX6_drawsOff_30 : decode cX6_drawsOff 30 = .ok (.iastore, 1) := by decide +kernel
theorem dX6_drawsOff_31 : decode cX6_drawsOff 31 = .ok (.aload_n 0, 1) := by decide +kernel
theorem dX6_drawsOff_32 : decode cX6_drawsOff 32 = .ok (.getfield 19, 3) := by decide +kernel
theorem dX6_drawsOff_35 : decode cX6_drawsOff 35 = .ok (.iload_n 2, 1) := by decide +kernel
theorem dX6_drawsOff_36 : decode cX6_drawsOff 36 = .ok (.aload_n 0, 1) := by decide +kernel
theorem dX6_drawsOff_37 : decode cX6_drawsOff 37 = .ok (.getfield 19, 3) := by decide +kernel
theorem dX6_drawsOff_40 : decode cX6_drawsOff 40 = .ok (.iload_n 2, 1) := by decide +kernel
theorem dX6_drawsOff_41 : decode cX6_drawsOff 41 = .ok (.iaload, 1) := by decide +kernel
theorem dX6_drawsOff_42 : decode cX6_drawsOff 42 = .ok (.iload_n 3, 1) := by decide +kernel
theorem dX6_drawsOff_43 : decode cX6_drawsOff 43 = .ok (.iadd, 1) := by decide +kernel
theorem dX6_drawsOff_44 : decode cX6_drawsOff 44 = .ok (.iconst 0, 1) := by decide +kernel
theorem dX6_drawsOff_45 : decode cX6_drawsOff 45 = .ok (.sipush 999, 3) := by decide +kernel
theorem dX6_drawsOff_48 : decode cX6_drawsOff 48 = .ok (.invokestatic 227, 3) := by decide +kernel
theorem dX6_drawsOff_51 : decode cX6_drawsOff 51 = .ok (.iastore, 1) := by decide +kernel
theorem dX6_drawsOff_52 : decode cX6_drawsOff 52 = .ok (.return_, 1) := by decide +kernel
theorem dX6_draw_0 : decode cX6_draw 0 = .ok (.aload_n 0, 1) := by decide +kernel
theorem dX6_draw_1 : decode cX6_draw 1 = .ok (.iload_n 1, 1) := by decide +kernel
theorem dX6_draw_2 : decode cX6_draw 2 = .ok (.invokevirtual 92, 3) := by decide +kernel
theorem dX6_draw_5 : decode cX6_draw 5 = .ok (.ifCond .eq 27, 3) := by decide +kernel
theorem dX6_draw_8 : decode cX6_draw 8 = .ok (.aload_n 0, 1) := by decide +kernel
theorem dX6_draw_9 : decode cX6_draw 9 = .ok (.iload_n 2, 1) := by decide +kernel
theorem dX6_draw_10 : decode cX6_draw 10 = .ok (.invokevirtual 92, 3) := by decide +kernel
theorem dX6_draw_13 : decode cX6_draw 13 = .ok (.ifCond .eq 19, 3) := by decide +kernel
theorem dX6_draw_16 : decode cX6_draw 16 = .ok (.iload_n 1, 1) := by decide +kernel
theorem dX6_draw_17 : decode cX6_draw 17 = .ok (.iload_n 2, 1) := by decide +kernel
theorem dX6_draw_18 : decode cX6_draw 18 = .ok (.if_icmp .eq 14, 3) := by decide +kernel
theorem dX6_draw_21 : decode cX6_draw 21 = .ok (.iload_n 3, 1) := by decide +kernel
theorem dX6_draw_22 : decode cX6_draw 22 = .ok (.iconst 0, 1) := by decide +kernel
theorem dX6_draw_23 : decode cX6_draw 23 = .ok (.sipush 999, 3) := by decide +kernel
theorem dX6_draw_26 : decode cX6_draw 26 = .ok (.invokestatic 88, 3) := by decide +kernel
theorem dX6_draw_29 : decode cX6_draw 29 = .ok (.ifCond .ne 6, 3) := by decide +kernel
theorem dX6_draw_32 : decode cX6_draw 32 = .ok (.bipush (-2), 2) := by decide +kernel
theorem dX6_draw_34 : decode cX6_draw 34 = .ok (.ireturn, 1) := by decide +kernel
theorem dX6_draw_35 : decode cX6_draw 35 = .ok (.aload_n 0, 1) := by decide +kernel
theorem dX6_draw_36 : decode cX6_draw 36 = .ok (.getfield 16, 3) := by decide +kernel
theorem dX6_draw_39 : decode cX6_draw 39 = .ok (.iload_n 1, 1) := by decide +kernel
theorem dX6_draw_40 : decode cX6_draw 40 = .ok (.iaload, 1) := by decide +kernel
theorem dX6_draw_41 : decode cX6_draw 41 = .ok (.iload_n 3, 1) := by decide +kernel
theorem dX6_draw_42 : decode cX6_draw 42 = .ok (.if_icmp .ge 6, 3) := by decide +kernel
theorem dX6_draw_45 : decode cX6_draw 45 = .ok (.bipush (-3), 2) := by decide +kernel
theorem dX6_draw_47 : decode cX6_draw 47 = .ok (.ireturn, 1) := by decide +kernel
theorem dX6_draw_48 : decode cX6_draw 48 = .ok (.aload_n 0, 1) := by decide +kernel
theorem dX6_draw_49 : decode cX6_draw 49 = .ok (.iload_n 1, 1) := by decide +kernel
theorem dX6_draw_50 : decode cX6_draw 50 = .ok (.iload_n 2, 1) := by decide +kernel
theorem dX6_draw_51 : decode cX6_draw 51 = .ok (.iload_n 3, 1) := by decide +kernel
theorem dX6_draw_52 : decode cX6_draw 52 = .ok (.invokevirtual 236, 3) := by decide +kernel
theorem dX6_draw_55 : decode cX6_draw 55 = .ok (.aload_n 0, 1) := by decide +kernel
theorem dX6_draw_56 : decode cX6_draw 56 = .ok (.getfield 16, 3) := by decide +kernel
theorem dX6_draw_59 : decode cX6_draw 59 = .ok (.iload_n 1, 1) := by decide +kernel
theorem dX6_draw_60 : decode cX6_draw 60 = .ok (.iaload, 1) := by decide +kernel
theorem dX6_draw_61 : decode cX6_draw 61 = .ok (.ireturn, 1) := by decide +kernel
theorem dX6_keeps_0 : decode cX6_keeps 0 = .ok (.aload_n 0, 1) := by decide +kernel
theorem dX6_keeps_1 : decode cX6_keeps 1 = .ok (.aload_n 0, 1) := by decide +kernel
theorem dX6_keeps_2 : decode cX6_keeps 2 = .ok (.getfield 96, 3) := by decide +kernel
theorem dX6_keeps_5 : decode cX6_keeps 5 = .ok (.putfield 240, 3) := by decide +kernel
theorem dX6_keeps_8 : decode cX6_keeps 8 = .ok (.aload_n 0, 1) := by decide +kernel
theorem dX6_keeps_9 : decode cX6_keeps 9 = .ok (.aload_n 0, 1) := by decide +kernel
theorem dX6_keeps_10 : decode cX6_keeps 10 = .ok (.getfield 99, 3) := by decide +kernel
theorem dX6_keeps_13 : decode cX6_keeps 13 = .ok (.putfield 243, 3) := by decide +kernel
theorem dX6_keeps_16 : decode cX6_keeps 16 = .ok (.iconst 0, 1) := by decide +kernel
theorem dX6_keeps_17 : decode cX6_keeps 17 = .ok (.istore_n 1, 1) := by decide +kernel
theorem dX6_keeps_18 : decode cX6_keeps 18 = .ok (.iload_n 1, 1) := by decide +kernel
theorem dX6_keeps_19 : decode cX6_keeps 19 = .ok (.iconst 5, 1) := by decide +kernel
theorem dX6_keeps_20 : decode cX6_keeps 20 = .ok (.if_icmp .ge 33, 3) := by decide +kernel
theorem dX6_keeps_23 : decode cX6_keeps 23 = .ok (.aload_n 0, 1) := by decide +kernel
theorem dX6_keeps_24 : decode cX6_keeps 24 = .ok (.getfield 43, 3) := by decide +kernel
theorem dX6_keeps_27 : decode cX6_keeps 27 = .ok (.iload_n 1, 1) := by decide +kernel
theorem dX6_keeps_28 : decode cX6_keeps 28 = .ok (.aload_n 0, 1) := by decide +kernel
theorem dX6_keeps_29 : decode cX6_keeps 29 = .ok (.getfield 16, 3) := by decide +kernel
theorem dX6_keeps_32 : decode cX6_keeps 32 = .ok (.iload_n 1, 1) := by decide +kernel
theorem dX6_keeps_33 : decode cX6_keeps 33 = .ok (.iaload, 1) := by decide +kernel
theorem dX6_keeps_34 : decode cX6_keeps 34 = .ok (.iastore, 1) := by decide +kernel
theorem dX6_keeps_35 : decode cX6_keeps 35 = .ok (.aload_n 0, 1) := by decide +kernel
theorem dX6_keeps_36 : decode cX6_keeps 36 = .ok (.getfield 46, 3) := by decide +kernel
theorem dX6_keeps_39 : decode cX6_keeps 39 = .ok (.iload_n 1, 1) := by decide +kernel
theorem dX6_keeps_40 : decode cX6_keeps 40 = .ok (.aload_n 0, 1) := by decide +kernel
theorem dX6_keeps_41 : decode cX6_keeps 41 = .ok (.getfield 19, 3) := by decide +kernel
theorem dX6_keeps_44 : decode cX6_keeps 44 = .ok (.iload_n 1, 1) := by decide +kernel
theorem dX6_keeps_45 : decode cX6_keeps 45 = .ok (.iaload, 1) := by decide +kernel
theorem dX6_keeps_46 : decode cX6_keeps 46 = .ok (.iastore, 1) := by decide +kernel
theorem dX6_keeps_47 : decode cX6_keeps 47 = .ok (.iinc 1 1, 3) := by decide +kernel
theorem dX6_keeps_50 : decode cX6_keeps 50 = .ok (.goto (-32), 3) := by decide +kernel
theorem dX6_keeps_53 : decode cX6_keeps 53 = .ok (.return_, 1) := by decide +kernel
theorem dX6_restores_0 : decode cX6_restores 0 = .ok (.aload_n 0, 1) := by decide +kernel
theorem dX6_restores_1 : decode cX6_restores 1 = .ok (.aload_n 0, 1) := by decide +kernel
theorem dX6_restores_2 : decode cX6_restores 2 = .ok (.getfield 240, 3) := by decide +kernel
theorem dX6_restores_5 : decode cX6_restores 5 = .ok (.putfield 96, 3) := by decide +kernel
theorem dX6_restores_8 : decode cX6_restores 8 = .ok (.aload_n 0, 1) := by decide +kernel
theorem dX6_restores_9 : decode cX6_restores 9 = .ok (.aload_n 0, 1) := by decide +kernel
theorem dX6_restores_10 : decode cX6_restores 10 = .ok (.getfield 243, 3) := by decide +kernel
theorem dX6_restores_13 : decode cX6_restores 13 = .ok (.putfield 99, 3) := by decide +kernel
theorem dX6_restores_16 : decode cX6_restores 16 = .ok (.iconst 0, 1) := by decide +kernel
theorem dX6_restores_17 : decode cX6_restores 17 = .ok (.istore_n 1, 1) := by decide +kernel
theorem dX6_restores_18 : decode cX6_restores 18 = .ok (.iload_n 1, 1) := by decide +kernel
theorem dX6_restores_19 : decode cX6_restores 19 = .ok (.iconst 5, 1) := by decide +kernel
theorem dX6_restores_20 : decode cX6_restores 20 = .ok (.if_icmp .ge 33, 3) := by decide +kernel
theorem dX6_restores_23 : decode cX6_restores 23 = .ok (.aload_n 0, 1) := by decide +kernel
theorem dX6_restores_24 : decode cX6_restores 24 = .ok (.getfield 16, 3) := by decide +kernel
theorem dX6_restores_27 : decode cX6_restores 27 = .ok (.iload_n 1, 1) := by decide +kernel
theorem dX6_restores_28 : decode cX6_restores 28 = .ok (.aload_n 0, 1) := by decide +kernel
theorem dX6_restores_29 : decode cX6_restores 29 = .ok (.getfield 43, 3) := by decide +kernel
theorem dX6_restores_32 : decode cX6_restores 32 = .ok (.iload_n 1, 1) := by decide +kernel
theorem dX6_restores_33 : decode cX6_restores 33 = .ok (.iaload, 1) := by decide +kernel
theorem dX6_restores_34 : decode cX6_restores 34 = .ok (.iastore, 1) := by decide +kernel
theorem dX6_restores_35 : decode cX6_restores 35 = .ok (.aload_n 0, 1) := by decide +kernel
theorem dX6_restores_36 : decode cX6_restores 36 = .ok (.getfield 19, 3) := by decide +kernel
theorem dX6_restores_39 : decode cX6_restores 39 = .ok (.iload_n 1, 1) := by decide +kernel
theorem dX6_restores_40 : decode cX6_restores 40 = .ok (.aload_n 0, 1) := by decide +kernel
theorem dX6_restores_41 : decode cX6_restores 41 = .ok (.getfield 46, 3) := by decide +kernel
theorem dX6_restores_44 : decode cX6_restores 44 = .ok (.iload_n 1, 1) := by decide +kernel
theorem dX6_restores_45 : decode cX6_restores 45 = .ok (.iaload, 1) := by decide +kernel
theorem dX6_restores_46 : decode cX6_restores 46 = .ok (.iastore, 1) := by decide +kernel
theorem dX6_restores_47 : decode cX6_restores 47 = .ok (.iinc 1 1, 3) := by decide +kernel
theorem dX6_restores_50 : decode cX6_restores 50 = .ok (.goto (-32), 3) := by decide +kernel
theorem dX6_restores_53 : decode cX6_restores 53 = .ok (.return_, 1) := by decide +kernel
theorem dX6_run_0 : decode cX6_run 0 = .ok (.aload_n 0, 1) := by decide +kernel
theorem dX6_run_1 : decode cX6_run 1 = .ok (.iload_n 1, 1) := by decide +kernel
theorem dX6_run_2 : decode cX6_run 2 = .ok (.invokevirtual 92, 3) := by decide +kernel
theorem dX6_run_5 : decode cX6_run 5 = .ok (.ifCond .eq 22, 3) := by decide +kernel
theorem dX6_run_8 : decode cX6_run 8 = .ok (.iload_n 2, 1) := by decide +kernel
theorem dX6_run_9 : decode cX6_run 9 = .ok (.iconst 0, 1) := by decide +kernel
theorem dX6_run_10 : decode cX6_run 10 = .ok (.bipush 40, 2) := by decide +kernel
theorem dX6_run_12 : decode cX6_run 12 = .ok (.invokestatic 88, 3) := by decide +kernel
theorem dX6_run_15 : decode cX6_run 15 = .ok (.ifCond .eq 12, 3) := by decide +kernel
theorem dX6_run_18 : decode cX6_run 18 = .ok (.iload_n 3, 1) := by decide +kernel
theorem dX6_run_19 : decode cX6_run 19 = .ok (.iconst 0, 1) := by decide +kernel
theorem dX6_run_20 : decode cX6_run 20 = .ok (.iconst 2, 1) := by decide +kernel
theorem dX6_run_21 : decode cX6_run 21 = .ok (.invokestatic 88, 3) := by decide +kernel
theorem dX6_run_24 : decode cX6_run 24 = .ok (.ifCond .ne 6, 3) := by decide +kernel
theorem dX6_run_27 : decode cX6_run 27 = .ok (.bipush (-2), 2) := by decide +kernel
theorem dX6_run_29 : decode cX6_run 29 = .ok (.ireturn, 1) := by decide +kernel
theorem dX6_run_30 : decode cX6_run 30 = .ok (.aload_n 0, 1) := by decide +kernel
theorem dX6_run_31 : decode cX6_run 31 = .ok (.invokevirtual 246, 3) := by decide +kernel
theorem dX6_run_34 : decode cX6_run 34 = .ok (.iconst 0, 1) := by decide +kernel
theorem dX6_run_35 : decode cX6_run 35 = .ok (.istore 4, 2) := by decide +kernel
theorem dX6_run_37 : decode cX6_run 37 = .ok (.iload 4, 2) := by decide +kernel
theorem dX6_run_39 : decode cX6_run 39 = .ok (.iload_n 2, 1) := by decide +kernel
theorem dX6_run_40 : decode cX6_run 40 = .ok (.if_icmp .ge 13, 3) := by decide +kernel
theorem dX6_run_43 : decode cX6_run 43 = .ok (.aload_n 0, 1) := by decide +kernel
theorem dX6_run_44 : decode cX6_run 44 = .ok (.invokevirtual 230, 3) := by decide +kernel
theorem dX6_run_47 : decode cX6_run 47 = .ok (.iinc 4 1, 3) := by decide +kernel
theorem dX6_run_50 : decode cX6_run 50 = .ok (.goto (-13), 3) := by decide +kernel
theorem dX6_run_53 : decode cX6_run 53 = .ok (.iload_n 3, 1) := by decide +kernel
theorem dX6_run_54 : decode cX6_run 54 = .ok (.ifCond .ne 12, 3) := by decide +kernel
theorem dX6_run_57 : decode cX6_run 57 = .ok (.aload_n 0, 1) := by decide +kernel
theorem dX6_run_58 : decode cX6_run 58 = .ok (.getfield 16, 3) := by decide +kernel
theorem dX6_run_61 : decode cX6_run 61 = .ok (.iload_n 1, 1) := by decide +kernel
theorem dX6_run_62 : decode cX6_run 62 = .ok (.iaload, 1) := by decide +kernel
theorem dX6_run_63 : decode cX6_run 63 = .ok (.goto 20, 3) := by decide +kernel
theorem dX6_run_66 : decode cX6_run 66 = .ok (.iload_n 3, 1) := by decide +kernel
theorem dX6_run_67 : decode cX6_run 67 = .ok (.iconst 1, 1) := by decide +kernel
theorem dX6_run_68 : decode cX6_run 68 = .ok (.if_icmp .ne 11, 3) := by decide +kernel
theorem dX6_run_71 : decode cX6_run 71 = .ok (.aload_n 0, 1) := by decide +kernel
theorem dX6_run_72 : decode cX6_run 72 = .ok (.iload_n 1, 1) := by decide +kernel
theorem dX6_run_73 : decode cX6_run 73 = .ok (.invokevirtual 120, 3) := by decide +kernel
theorem dX6_run_76 : decode cX6_run 76 = .ok (.goto 7, 3) := by decide +kernel
theorem dX6_run_79 : decode cX6_run 79 = .ok (.aload_n 0, 1) := by decide +kernel
theorem dX6_run_80 : decode cX6_run 80 = .ok (.invokevirtual 233, 3) := by decide +kernel
theorem dX6_run_83 : decode cX6_run 83 = .ok (.istore 4, 2) := by decide +kernel
theorem dX6_run_85 : decode cX6_run 85 = .ok (.aload_n 0, 1) := by decide +kernel
theorem dX6_run_86 : decode cX6_run 86 = .ok (.invokevirtual 249, 3) := by decide +kernel
theorem dX6_run_89 : decode cX6_run 89 = .ok (.iload 4, 2) := by decide +kernel
theorem dX6_run_91 : decode cX6_run 91 = .ok (.ireturn, 1) := by decide +kernel
theorem dX6_longest_0 : decode cX6_longest 0 = .ok (.iconst (-1), 1) := by decide +kernel
theorem dX6_longest_1 : decode cX6_longest 1 = .ok (.istore_n 1, 1) := by decide +kernel
theorem dX6_longest_2 : decode cX6_longest 2 = .ok (.iconst 0, 1) := by decide +kernel
theorem dX6_longest_3 : decode cX6_longest 3 = .ok (.istore_n 2, 1) := by decide +kernel
theorem dX6_longest_4 : decode cX6_longest 4 = .ok (.iconst 0, 1) := by decide +kernel
theorem dX6_longest_5 : decode cX6_longest 5 = .ok (.istore_n 3, 1) := by decide +kernel
theorem dX6_longest_6 : decode cX6_longest 6 = .ok (.iload_n 3, 1) := by decide +kernel
theorem dX6_longest_7 : decode cX6_longest 7 = .ok (.aload_n 0, 1) := by decide +kernel
theorem dX6_longest_8 : decode cX6_longest 8 = .ok (.getfield 85, 3) := by decide +kernel
theorem dX6_longest_11 : decode cX6_longest 11 = .ok (.if_icmp .ge 35, 3) := by decide +kernel
theorem dX6_longest_14 : decode cX6_longest 14 = .ok (.aload_n 0, 1) := by decide +kernel
theorem dX6_longest_15 : decode cX6_longest 15 = .ok (.iload_n 3, 1) := by decide +kernel
theorem dX6_longest_16 : decode cX6_longest 16 = .ok (.invokevirtual 120, 3) := by decide +kernel
theorem dX6_longest_19 : decode cX6_longest 19 = .ok (.istore 4, 2) := by decide +kernel
theorem dX6_longest_21 : decode cX6_longest 21 = .ok (.iload_n 1, 1) := by decide +kernel
theorem dX6_longest_22 : decode cX6_longest 22 = .ok (.iconst (-1), 1) := by decide +kernel
theorem dX6_longest_23 : decode cX6_longest 23 = .ok (.if_icmp .eq 12, 3) := by decide +kernel
theorem dX6_longest_26 : decode cX6_longest 26 = .ok (.iload 4, 2) := by decide +kernel
theorem dX6_longest_28 : decode cX6_longest 28 = .ok (.iload_n 2, 1) := by decide +kernel
theorem dX6_longest_29 : decode cX6_longest 29 = .ok (.if_icmp .gt 6, 3) := by decide +kernel
theorem dX6_longest_32 : decode cX6_longest 32 = .ok (.goto 8, 3) := by decide +kernel
theorem dX6_longest_35 : decode cX6_longest 35 = .ok (.iload 4, 2) := by decide +kernel
theorem dX6_longest_37 : decode cX6_longest 37 = .ok (.istore_n 2, 1) := by decide +kernel
theorem dX6_longest_38 : decode cX6_longest 38 = .ok (.iload_n 3, 1) := by decide +kernel
theorem dX6_longest_39 : decode cX6_longest 39 = .ok (.istore_n 1, 1) := by decide +kernel
theorem dX6_longest_40 : decode cX6_longest 40 = .ok (.iinc 3 1, 3) := by decide +kernel
theorem dX6_longest_43 : decode cX6_longest 43 = .ok (.goto (-37), 3) := by decide +kernel
theorem dX6_longest_46 : decode cX6_longest 46 = .ok (.iload_n 1, 1) := by decide +kernel
theorem dX6_longest_47 : decode cX6_longest 47 = .ok (.ireturn, 1) := by decide +kernel
theorem dX6_clogged_0 : decode cX6_clogged 0 = .ok (.iconst 0, 1) := by decide +kernel
theorem dX6_clogged_1 : decode cX6_clogged 1 = .ok (.istore_n 1, 1) := by decide +kernel
theorem dX6_clogged_2 : decode cX6_clogged 2 = .ok (.iconst 0, 1) := by decide +kernel
theorem dX6_clogged_3 : decode cX6_clogged 3 = .ok (.istore_n 2, 1) := by decide +kernel
theorem dX6_clogged_4 : decode cX6_clogged 4 = .ok (.iload_n 2, 1) := by decide +kernel
theorem dX6_clogged_5 : decode cX6_clogged 5 = .ok (.aload_n 0, 1) := by decide +kernel
theorem dX6_clogged_6 : decode cX6_clogged 6 = .ok (.getfield 85, 3) := by decide +kernel
theorem dX6_clogged_9 : decode cX6_clogged 9 = .ok (.if_icmp .ge 23, 3) := by decide +kernel
theorem dX6_clogged_12 : decode cX6_clogged 12 = .ok (.aload_n 0, 1) := by decide +kernel
theorem dX6_clogged_13 : decode cX6_clogged 13 = .ok (.iload_n 2, 1) := by decide +kernel
theorem dX6_clogged_14 : decode cX6_clogged 14 = .ok (.invokevirtual 114, 3) := by decide +kernel
theorem dX6_clogged_17 : decode cX6_clogged 17 = .ok (.ifCond .eq 9, 3) := by decide +kernel
theorem dX6_clogged_20 : decode cX6_clogged 20 = .ok (.iload_n 1, 1) := by decide +kernel
theorem dX6_clogged_21 : decode cX6_clogged 21 = .ok (.iconst 1, 1) := by decide +kernel
theorem dX6_clogged_22 : decode cX6_clogged 22 = .ok (.iload_n 2, 1) := by decide +kernel
theorem dX6_clogged_23 : decode cX6_clogged 23 = .ok (.ishl, 1) := by decide +kernel
theorem dX6_clogged_24 : decode cX6_clogged 24 = .ok (.ior, 1) := by decide +kernel
theorem dX6_clogged_25 : decode cX6_clogged 25 = .ok (.istore_n 1, 1) := by decide +kernel
theorem dX6_clogged_26 : decode cX6_clogged 26 = .ok (.iinc 2 1, 3) := by decide +kernel
theorem dX6_clogged_29 : decode cX6_clogged 29 = .ok (.goto (-25), 3) := by decide +kernel
theorem dX6_clogged_32 : decode cX6_clogged 32 = .ok (.iload_n 1, 1) := by decide +kernel
theorem dX6_clogged_33 : decode cX6_clogged 33 = .ok (.ireturn, 1) := by decide +kernel
theorem dX6_all_0 : decode cX6_all 0 = .ok (.aload_n 0, 1) := by decide +kernel
theorem dX6_all_1 : decode cX6_all 1 = .ok (.invokevirtual 252, 3) := by decide +kernel
theorem dX6_all_4 : decode cX6_all 4 = .ok (.istore_n 2, 1) := by decide +kernel
theorem dX6_all_5 : decode cX6_all 5 = .ok (.iload_n 1, 1) := by decide +kernel
theorem dX6_all_6 : decode cX6_all 6 = .ok (.tableswitch 57 0 3 #[30, 32, 47, 52], 30) := by decide +kernel
theorem dX6_all_36 : decode cX6_all 36 = .ok (.iload_n 2, 1) := by decide +kernel
theorem dX6_all_37 : decode cX6_all 37 = .ok (.ireturn, 1) := by decide +kernel
theorem dX6_all_38 : decode cX6_all 38 = .ok (.iload_n 2, 1) := by decide +kernel
theorem dX6_all_39 : decode cX6_all 39 = .ok (.iconst (-1), 1) := by decide +kernel
theorem dX6_all_40 : decode cX6_all 40 = .ok (.if_icmp .ne 7, 3) := by decide +kernel
theorem dX6_all_43 : decode cX6_all 43 = .ok (.iconst 0, 1) := by decide +kernel
theorem dX6_all_44 : decode cX6_all 44 = .ok (.goto 8, 3) := by decide +kernel
theorem dX6_all_47 : decode cX6_all 47 = .ok (.aload_n 0, 1) := by decide +kernel
theorem dX6_all_48 : decode cX6_all 48 = .ok (.iload_n 2, 1) := by decide +kernel
theorem dX6_all_49 : decode cX6_all 49 = .ok (.invokevirtual 120, 3) := by decide +kernel
theorem dX6_all_52 : decode cX6_all 52 = .ok (.ireturn, 1) := by decide +kernel
theorem dX6_all_53 : decode cX6_all 53 = .ok (.aload_n 0, 1) := by decide +kernel
theorem dX6_all_54 : decode cX6_all 54 = .ok (.invokevirtual 255, 3) := by decide +kernel
theorem dX6_all_57 : decode cX6_all 57 = .ok (.ireturn, 1) := by decide +kernel
theorem dX6_all_58 : decode cX6_all 58 = .ok (.aload_n 0, 1) := by decide +kernel
theorem dX6_all_59 : decode cX6_all 59 = .ok (.invokevirtual 218, 3) := by decide +kernel
theorem dX6_all_62 : decode cX6_all 62 = .ok (.ireturn, 1) := by decide +kernel
theorem dX6_all_63 : decode cX6_all 63 = .ok (.bipush (-2), 2) := by decide +kernel
theorem dX6_all_65 : decode cX6_all 65 = .ok (.ireturn, 1) := by decide +kernel
theorem dX6_pours_0 : decode cX6_pours 0 = .ok (.aload_n 0, 1) := by decide +kernel
theorem dX6_pours_1 : decode cX6_pours 1 = .ok (.aload_n 0, 1) := by decide +kernel
theorem dX6_pours_2 : decode cX6_pours 2 = .ok (.iload_n 1, 1) := by decide +kernel
theorem dX6_pours_3 : decode cX6_pours 3 = .ok (.bipush 100, 2) := by decide +kernel
theorem dX6_pours_5 : decode cX6_pours 5 = .ok (.idiv, 1) := by decide +kernel
theorem dX6_pours_6 : decode cX6_pours 6 = .ok (.invokevirtual 120, 3) := by decide +kernel
theorem dX6_pours_9 : decode cX6_pours 9 = .ok (.putfield 258, 3) := by decide +kernel
theorem dX6_pours_12 : decode cX6_pours 12 = .ok (.aload_n 0, 1) := by decide +kernel
theorem dX6_pours_13 : decode cX6_pours 13 = .ok (.aload_n 0, 1) := by decide +kernel
theorem dX6_pours_14 : decode cX6_pours 14 = .ok (.iload_n 1, 1) := by decide +kernel
theorem dX6_pours_15 : decode cX6_pours 15 = .ok (.bipush 10, 2) := by decide +kernel
theorem dX6_pours_17 : decode cX6_pours 17 = .ok (.idiv, 1) := by decide +kernel
theorem dX6_pours_18 : decode cX6_pours 18 = .ok (.bipush 10, 2) := by decide +kernel
theorem dX6_pours_20 : decode cX6_pours 20 = .ok (.irem, 1) := by decide +kernel
theorem dX6_pours_21 : decode cX6_pours 21 = .ok (.invokevirtual 120, 3) := by decide +kernel
theorem dX6_pours_24 : decode cX6_pours 24 = .ok (.putfield 260, 3) := by decide +kernel
theorem dX6_pours_27 : decode cX6_pours 27 = .ok (.aload_n 0, 1) := by decide +kernel
theorem dX6_pours_28 : decode cX6_pours 28 = .ok (.aload_n 0, 1) := by decide +kernel
theorem dX6_pours_29 : decode cX6_pours 29 = .ok (.iload_n 1, 1) := by decide +kernel
theorem dX6_pours_30 : decode cX6_pours 30 = .ok (.bipush 10, 2) := by decide +kernel
theorem dX6_pours_32 : decode cX6_pours 32 = .ok (.irem, 1) := by decide +kernel
theorem dX6_pours_33 : decode cX6_pours 33 = .ok (.invokevirtual 120, 3) := by decide +kernel
theorem dX6_pours_36 : decode cX6_pours 36 = .ok (.putfield 263, 3) := by decide +kernel
theorem dX6_pours_39 : decode cX6_pours 39 = .ok (.return_, 1) := by decide +kernel
theorem dX6_turned_0 : decode cX6_turned 0 = .ok (.iload_n 1, 1) := by decide +kernel
theorem dX6_turned_1 : decode cX6_turned 1 = .ok (.bipush 100, 2) := by decide +kernel
theorem dX6_turned_3 : decode cX6_turned 3 = .ok (.idiv, 1) := by decide +kernel
theorem dX6_turned_4 : decode cX6_turned 4 = .ok (.istore_n 3, 1) := by decide +kernel
theorem dX6_turned_5 : decode cX6_turned 5 = .ok (.iload_n 1, 1) := by decide +kernel
theorem dX6_turned_6 : decode cX6_turned 6 = .ok (.bipush 10, 2) := by decide +kernel
theorem dX6_turned_8 : decode cX6_turned 8 = .ok (.idiv, 1) := by decide +kernel
theorem dX6_turned_9 : decode cX6_turned 9 = .ok (.bipush 10, 2) := by decide +kernel
theorem dX6_turned_11 : decode cX6_turned 11 = .ok (.irem, 1) := by decide +kernel
theorem dX6_turned_12 : decode cX6_turned 12 = .ok (.istore 4, 2) := by decide +kernel
theorem dX6_turned_14 : decode cX6_turned 14 = .ok (.iload_n 1, 1) := by decide +kernel
theorem dX6_turned_15 : decode cX6_turned 15 = .ok (.bipush 10, 2) := by decide +kernel
theorem dX6_turned_17 : decode cX6_turned 17 = .ok (.irem, 1) := by decide +kernel
theorem dX6_turned_18 : decode cX6_turned 18 = .ok (.istore 5, 2) := by decide +kernel
theorem dX6_turned_20 : decode cX6_turned 20 = .ok (.iload_n 2, 1) := by decide +kernel
theorem dX6_turned_21 : decode cX6_turned 21 = .ok (.iconst 1, 1) := by decide +kernel
theorem dX6_turned_22 : decode cX6_turned 22 = .ok (.iand, 1) := by decide +kernel
theorem dX6_turned_23 : decode cX6_turned 23 = .ok (.ifCond .eq 10, 3) := by decide +kernel
theorem dX6_turned_26 : decode cX6_turned 26 = .ok (.aload_n 0, 1) := by decide +kernel
theorem dX6_turned_27 : decode cX6_turned 27 = .ok (.getfield 258, 3) := by decide +kernel
theorem dX6_turned_30 : decode cX6_turned 30 = .ok (.iload_n 3, 1) := by decide +kernel
theorem dX6_turned_31 : decode cX6_turned 31 = .ok (.isub, 1) := by decide +kernel
theorem dX6_turned_32 : decode cX6_turned 32 = .ok (.istore_n 3, 1) := by decide +kernel
theorem dX6_turned_33 : decode cX6_turned 33 = .ok (.iload_n 2, 1) := by decide +kernel
theorem dX6_turned_34 : decode cX6_turned 34 = .ok (.iconst 2, 1) := by decide +kernel
theorem dX6_turned_35 : decode cX6_turned 35 = .ok (.iand, 1) := by decide +kernel
theorem dX6_turned_36 : decode cX6_turned 36 = .ok (.ifCond .eq 12, 3) := by decide +kernel
theorem dX6_turned_39 : decode cX6_turned 39 = .ok (.aload_n 0, 1) := by decide +kernel
theorem dX6_turned_40 : decode cX6_turned 40 = .ok (.getfield 260, 3) := by decide +kernel
theorem dX6_turned_43 : decode cX6_turned 43 = .ok (.iload 4, 2) := by decide +kernel
theorem dX6_turned_45 : decode cX6_turned 45 = .ok (.isub, 1) := by decide +kernel
theorem dX6_turned_46 : decode cX6_turned 46 = .ok (.istore 4, 2) := by decide +kernel
theorem dX6_turned_48 : decode cX6_turned 48 = .ok (.iload_n 2, 1) := by decide +kernel
theorem dX6_turned_49 : decode cX6_turned 49 = .ok (.iconst 4, 1) := by decide +kernel
theorem dX6_turned_50 : decode cX6_turned 50 = .ok (.iand, 1) := by decide +kernel
theorem dX6_turned_51 : decode cX6_turned 51 = .ok (.ifCond .eq 12, 3) := by decide +kernel
theorem dX6_turned_54 : decode cX6_turned 54 = .ok (.aload_n 0, 1) := by decide +kernel
theorem dX6_turned_55 : decode cX6_turned 55 = .ok (.getfield 263, 3) := by decide +kernel
theorem dX6_turned_58 : decode cX6_turned 58 = .ok (.iload 5, 2) := by decide +kernel
theorem dX6_turned_60 : decode cX6_turned 60 = .ok (.isub, 1) := by decide +kernel
theorem dX6_turned_61 : decode cX6_turned 61 = .ok (.istore 5, 2) := by decide +kernel
theorem dX6_turned_63 : decode cX6_turned 63 = .ok (.iload_n 3, 1) := by decide +kernel
theorem dX6_turned_64 : decode cX6_turned 64 = .ok (.istore 6, 2) := by decide +kernel
theorem dX6_turned_66 : decode cX6_turned 66 = .ok (.iload 4, 2) := by decide +kernel
theorem dX6_turned_68 : decode cX6_turned 68 = .ok (.ifCond .le 19, 3) := by decide +kernel
theorem dX6_turned_71 : decode cX6_turned 71 = .ok (.iload 6, 2) := by decide +kernel
theorem dX6_turned_73 : decode cX6_turned 73 = .ok (.ifCond .eq 10, 3) := by decide +kernel
theorem dX6_turned_76 : decode cX6_turned 76 = .ok (.iload 4, 2) := by decide +kernel
theorem dX6_turned_78 : decode cX6_turned 78 = .ok (.iload 6, 2) := by decide +kernel
theorem dX6_turned_80 : decode cX6_turned 80 = .ok (.if_icmp .ge 7, 3) := by decide +kernel
theorem dX6_turned_83 : decode cX6_turned 83 = .ok (.iload 4, 2) := by decide +kernel
theorem dX6_turned_85 : decode cX6_turned 85 = .ok (.istore 6, 2) := by decide +kernel
theorem dX6_turned_87 : decode cX6_turned 87 = .ok (.iload 5, 2) := by decide +kernel
theorem dX6_turned_89 : decode cX6_turned 89 = .ok (.ifCond .le 19, 3) := by decide +kernel
theorem dX6_turned_92 : decode cX6_turned 92 = .ok (.iload 6, 2) := by decide +kernel
theorem dX6_turned_94 : decode cX6_turned 94 = .ok (.ifCond .eq 10, 3) := by decide +kernel
theorem dX6_turned_97 : decode cX6_turned 97 = .ok (.iload 5, 2) := by decide +kernel
theorem dX6_turned_99 : decode cX6_turned 99 = .ok (.iload 6, 2) := by decide +kernel
theorem dX6_turned_101 : decode cX6_turned 101 = .ok (.if_icmp .ge 7, 3) := by decide +kernel
theorem dX6_turned_104 : decode cX6_turned 104 = .ok (.iload 5, 2) := by decide +kernel
theorem dX6_turned_106 : decode cX6_turned 106 = .ok (.istore 6, 2) := by decide +kernel
theorem dX6_turned_108 : decode cX6_turned 108 = .ok (.aload_n 0, 1) := by decide +kernel
theorem dX6_turned_109 : decode cX6_turned 109 = .ok (.iload 6, 2) := by decide +kernel
theorem dX6_turned_111 : decode cX6_turned 111 = .ok (.putfield 266, 3) := by decide +kernel
theorem dX6_turned_114 : decode cX6_turned 114 = .ok (.aload_n 0, 1) := by decide +kernel
theorem dX6_turned_115 : decode cX6_turned 115 = .ok (.bipush 100, 2) := by decide +kernel
theorem dX6_turned_117 : decode cX6_turned 117 = .ok (.iload_n 3, 1) := by decide +kernel
theorem dX6_turned_118 : decode cX6_turned 118 = .ok (.iload 6, 2) := by decide +kernel
theorem dX6_turned_120 : decode cX6_turned 120 = .ok (.isub, 1) := by decide +kernel
theorem dX6_turned_121 : decode cX6_turned 121 = .ok (.iconst 0, 1) := by decide +kernel
theorem dX6_turned_122 : decode cX6_turned 122 = .ok (.bipush 9, 2) := by decide +kernel
theorem dX6_turned_124 : decode cX6_turned 124 = .ok (.invokestatic 227, 3) := by decide +kernel
theorem dX6_turned_127 : decode cX6_turned 127 = .ok (.imul, 1) := by decide +kernel
theorem dX6_turned_128 : decode cX6_turned 128 = .ok (.bipush 10, 2) := by decide +kernel
theorem dX6_turned_130 : decode cX6_turned 130 = .ok (.iload 4, 2) := by decide +kernel
theorem dX6_turned_132 : decode cX6_turned 132 = .ok (.iload 6, 2) := by decide +kernel
theorem dX6_turned_134 : decode cX6_turned 134 = .ok (.isub, 1) := by decide +kernel
theorem dX6_turned_135 : decode cX6_turned 135 = .ok (.iconst 0, 1) := by decide +kernel
theorem dX6_turned_136 : decode cX6_turned 136 = .ok (.bipush 9, 2) := by decide +kernel
theorem dX6_turned_138 : decode cX6_turned 138 = .ok (.invokestatic 227, 3) := by decide +kernel
theorem dX6_turned_141 : decode cX6_turned 141 = .ok (.imul, 1) := by decide +kernel
theorem dX6_turned_142 : decode cX6_turned 142 = .ok (.iadd, 1) := by decide +kernel
theorem dX6_turned_143 : decode cX6_turned 143 = .ok (.iload 5, 2) := by decide +kernel
theorem dX6_turned_145 : decode cX6_turned 145 = .ok (.iload 6, 2) := by decide +kernel
theorem dX6_turned_147 : decode cX6_turned 147 = .ok (.isub, 1) := by decide +kernel
theorem dX6_turned_148 : decode cX6_turned 148 = .ok (.iconst 0, 1) := by decide +kernel
theorem dX6_turned_149 : decode cX6_turned 149 = .ok (.bipush 9, 2) := by decide +kernel
theorem dX6_turned_151 : decode cX6_turned 151 = .ok (.invokestatic 227, 3) := by decide +kernel
theorem dX6_turned_154 : decode cX6_turned 154 = .ok (.iadd, 1) := by decide +kernel
theorem dX6_turned_155 : decode cX6_turned 155 = .ok (.putfield 269, 3) := by decide +kernel
theorem dX6_turned_158 : decode cX6_turned 158 = .ok (.return_, 1) := by decide +kernel
theorem dX6_sizeOf_0 : decode cX6_sizeOf 0 = .ok (.iload_n 0, 1) := by decide +kernel
theorem dX6_sizeOf_1 : decode cX6_sizeOf 1 = .ok (.iconst 1, 1) := by decide +kernel
theorem dX6_sizeOf_2 : decode cX6_sizeOf 2 = .ok (.iand, 1) := by decide +kernel
theorem dX6_sizeOf_3 : decode cX6_sizeOf 3 = .ok (.iload_n 0, 1) := by decide +kernel
theorem dX6_sizeOf_4 : decode cX6_sizeOf 4 = .ok (.iconst 1, 1) := by decide +kernel
theorem dX6_sizeOf_5 : decode cX6_sizeOf 5 = .ok (.ishr, 1) := by decide +kernel
theorem dX6_sizeOf_6 : decode cX6_sizeOf 6 = .ok (.iconst 1, 1) := by decide +kernel
theorem dX6_sizeOf_7 : decode cX6_sizeOf 7 = .ok (.iand, 1) := by decide +kernel
theorem dX6_sizeOf_8 : decode cX6_sizeOf 8 = .ok (.iadd, 1) := by decide +kernel
theorem dX6_sizeOf_9 : decode cX6_sizeOf 9 = .ok (.iload_n 0, 1) := by decide +kernel
theorem dX6_sizeOf_10 : decode cX6_sizeOf 10 = .ok (.iconst 2, 1) := by decide +kernel
theorem dX6_sizeOf_11 : decode cX6_sizeOf 11 = .ok (.ishr, 1) := by decide +kernel
theorem dX6_sizeOf_12 : decode cX6_sizeOf 12 = .ok (.iconst 1, 1) := by decide +kernel
theorem dX6_sizeOf_13 : decode cX6_sizeOf 13 = .ok (.iand, 1) := by decide +kernel
theorem dX6_sizeOf_14 : decode cX6_sizeOf 14 = .ok (.iadd, 1) := by decide +kernel
theorem dX6_sizeOf_15 : decode cX6_sizeOf 15 = .ok (.ireturn, 1) := by decide +kernel
theorem dX6_toldTimes_0 : decode cX6_toldTimes 0 = .ok (.iconst 0, 1) := by decide +kernel
theorem dX6_toldTimes_1 : decode cX6_toldTimes 1 = .ok (.istore_n 1, 1) := by decide +kernel
theorem dX6_toldTimes_2 : decode cX6_toldTimes 2 = .ok (.iload_n 1, 1) := by decide +kernel
theorem dX6_toldTimes_3 : decode cX6_toldTimes 3 = .ok (.sipush 31000, 3) := by decide +kernel
theorem dX6_toldTimes_6 : decode cX6_toldTimes 6 = .ok (.if_icmp .ge 24, 3) := by decide +kernel
theorem dX6_toldTimes_9 : decode cX6_toldTimes 9 = .ok (.aload_n 0, 1) := by decide +kernel
theorem dX6_toldTimes_10 : decode cX6_toldTimes 10 = .ok (.getfield 52, 3) := by decide +kernel
theorem dX6_toldTimes_13 : decode cX6_toldTimes 13 = .ok (.iload_n 1, 1) := by decide +kernel
theorem dX6_toldTimes_14 : decode cX6_toldTimes 14 = .ok (.iload_n 1, 1) := by decide +kernel
theorem dX6_toldTimes_15 : decode cX6_toldTimes 15 = .ok (.ifCond .ne 7, 3) := by decide +kernel
theorem dX6_toldTimes_18 : decode cX6_toldTimes 18 = .ok (.iconst 1, 1) := by decide +kernel
theorem dX6_toldTimes_19 : decode cX6_toldTimes 19 = .ok (.goto 4, 3) := by decide +kernel
theorem dX6_toldTimes_22 : decode cX6_toldTimes 22 = .ok (.iconst 0, 1) := by decide +kernel
theorem dX6_toldTimes_23 : decode cX6_toldTimes 23 = .ok (.bastore, 1) := by decide +kernel
theorem dX6_toldTimes_24 : decode cX6_toldTimes 24 = .ok (.iinc 1 1, 3) := by decide +kernel
theorem dX6_toldTimes_27 : decode cX6_toldTimes 27 = .ok (.goto (-25), 3) := by decide +kernel
theorem dX6_toldTimes_30 : decode cX6_toldTimes 30 = .ok (.lconst 0, 1) := by decide +kernel
theorem dX6_toldTimes_31 : decode cX6_toldTimes 31 = .ok (.lstore_n 1, 1) := by decide +kernel
theorem dX6_toldTimes_32 : decode cX6_toldTimes 32 = .ok (.iconst 0, 1) := by decide +kernel
theorem dX6_toldTimes_33 : decode cX6_toldTimes 33 = .ok (.istore_n 3, 1) := by decide +kernel
theorem dX6_toldTimes_34 : decode cX6_toldTimes 34 = .ok (.iload_n 3, 1) := by decide +kernel
theorem dX6_toldTimes_35 : decode cX6_toldTimes 35 = .ok (.bipush 30, 2) := by decide +kernel
theorem dX6_toldTimes_37 : decode cX6_toldTimes 37 = .ok (.if_icmp .ge 122, 3) := by decide +kernel
theorem dX6_toldTimes_40 : decode cX6_toldTimes 40 = .ok (.iconst 0, 1) := by decide +kernel
theorem dX6_toldTimes_41 : decode cX6_toldTimes 41 = .ok (.istore 4, 2) := by decide +kernel
theorem dX6_toldTimes_43 : decode cX6_toldTimes 43 = .ok (.iload 4, 2) := by decide +kernel
theorem dX6_toldTimes_45 : decode cX6_toldTimes 45 = .ok (.sipush 1000, 3) := by decide +kernel
theorem dX6_toldTimes_48 : decode cX6_toldTimes 48 = .ok (.if_icmp .ge 105, 3) := by decide +kernel
theorem dX6_toldTimes_51 : decode cX6_toldTimes 51 = .ok (.aload_n 0, 1) := by decide +kernel
theorem dX6_toldTimes_52 : decode cX6_toldTimes 52 = .ok (.getfield 52, 3) := by decide +kernel
theorem dX6_toldTimes_55 : decode cX6_toldTimes 55 = .ok (.sipush 1000, 3) := by decide +kernel
theorem dX6_toldTimes_58 : decode cX6_toldTimes 58 = .ok (.iload_n 3, 1) := by decide +kernel
theorem dX6_toldTimes_59 : decode cX6_toldTimes 59 = .ok (.imul, 1) := by decide +kernel
theorem dX6_toldTimes_60 : decode cX6_toldTimes 60 = .ok (.iload 4, 2) := by decide +kernel
theorem dX6_toldTimes_62 : decode cX6_toldTimes 62 = .ok (.iadd, 1) := by decide +kernel
theorem dX6_toldTimes_63 : decode cX6_toldTimes 63 = .ok (.baload, 1) := by decide +kernel
theorem dX6_toldTimes_64 : decode cX6_toldTimes 64 = .ok (.ifCond .ne 6, 3) := by decide +kernel
theorem dX6_toldTimes_67 : decode cX6_toldTimes 67 = .ok (.goto 80, 3) := by decide +kernel
theorem dX6_toldTimes_70 : decode cX6_toldTimes 70 = .ok (.iconst 0, 1) := by decide +kernel
theorem dX6_toldTimes_71 : decode cX6_toldTimes 71 = .ok (.istore 5, 2) := by decide +kernel
theorem dX6_toldTimes_73 : decode cX6_toldTimes 73 = .ok (.iload 5, 2) := by decide +kernel
theorem dX6_toldTimes_75 : decode cX6_toldTimes 75 = .ok (.bipush 8, 2) := by decide +kernel
theorem dX6_toldTimes_77 : decode cX6_toldTimes 77 = .ok (.if_icmp .ge 70, 3) := by decide +kernel
theorem dX6_toldTimes_80 : decode cX6_toldTimes 80 = .ok (.aload_n 0, 1) := by decide +kernel
theorem dX6_toldTimes_81 : decode cX6_toldTimes 81 = .ok (.iload 4, 2) := by decide +kernel
theorem dX6_toldTimes_83 : decode cX6_toldTimes 83 = .ok (.iload 5, 2) := by decide +kernel
theorem dX6_toldTimes_85 : decode cX6_toldTimes 85 = .ok (.invokevirtual 272, 3) := by decide +kernel
theorem dX6_toldTimes_88 : decode cX6_toldTimes 88 = .ok (.aload_n 0, 1) := by decide +kernel
theorem dX6_toldTimes_89 : decode cX6_toldTimes 89 = .ok (.getfield 266, 3) := by decide +kernel
theorem dX6_toldTimes_92 : decode cX6_toldTimes 92 = .ok (.ifCond .eq 49, 3) := by decide +kernel
theorem dX6_toldTimes_95 : decode cX6_toldTimes 95 = .ok (.iload_n 3, 1) := by decide +kernel
theorem dX6_toldTimes_96 : decode cX6_toldTimes 96 = .ok (.aload_n 0, 1) := by decide +kernel
theorem dX6_toldTimes_97 : decode cX6_toldTimes 97 = .ok (.getfield 266, 3) := by decide +kernel
theorem dX6_toldTimes_100 : decode cX6_toldTimes 100 = .ok (.iadd, 1) := by decide +kernel
theorem dX6_toldTimes_101 : decode cX6_toldTimes 101 = .ok (.bipush 30, 2) := by decide +kernel
theorem dX6_toldTimes_103 : decode cX6_toldTimes 103 = .ok (.if_icmp .le 6, 3) := by decide +kernel
theorem dX6_toldTimes_106 : decode cX6_toldTimes 106 = .ok (.goto 35, 3) := by decide +kernel
theorem dX6_toldTimes_109 : decode cX6_toldTimes 109 = .ok (.aload_n 0, 1) := by decide +kernel
theorem dX6_toldTimes_110 : decode cX6_toldTimes 110 = .ok (.getfield 52, 3) := by decide +kernel
theorem dX6_toldTimes_113 : decode cX6_toldTimes 113 = .ok (.sipush 1000, 3) := by decide +kernel
theorem dX6_toldTimes_116 : decode cX6_toldTimes 116 = .ok (.iload_n 3, 1) := by decide +kernel
theorem dX6_toldTimes_117 : decode cX6_toldTimes 117 = .ok (.aload_n 0, 1) := by decide +kernel
theorem dX6_toldTimes_118 : decode cX6_toldTimes 118 = .ok (.getfield 266, 3) := by decide +kernel
theorem dX6_toldTimes_121 : decode cX6_toldTimes 121 = .ok (.iadd, 1) := by decide +kernel
theorem dX6_toldTimes_122 : decode cX6_toldTimes 122 = .ok (.imul, 1) := by decide +kernel
theorem dX6_toldTimes_123 : decode cX6_toldTimes 123 = .ok (.aload_n 0, 1) := by decide +kernel
theorem dX6_toldTimes_124 : decode cX6_toldTimes 124 = .ok (.getfield 269, 3) := by decide +kernel
theorem dX6_toldTimes_127 : decode cX6_toldTimes 127 = .ok (.iadd, 1) := by decide +kernel
theorem dX6_toldTimes_128 : decode cX6_toldTimes 128 = .ok (.iconst 1, 1) := by decide +kernel
theorem dX6_toldTimes_129 : decode cX6_toldTimes 129 = .ok (.bastore, 1) := by decide +kernel
theorem dX6_toldTimes_130 : decode cX6_toldTimes 130 = .ok (.lload_n 1, 1) := by decide +kernel
theorem dX6_toldTimes_131 : decode cX6_toldTimes 131 = .ok (.lconst 1, 1) := by decide +kernel
theorem dX6_toldTimes_132 : decode cX6_toldTimes 132 = .ok (.iload_n 3, 1) := by decide +kernel
theorem dX6_toldTimes_133 : decode cX6_toldTimes 133 = .ok (.aload_n 0, 1) := by decide +kernel
theorem dX6_toldTimes_134 : decode cX6_toldTimes 134 = .ok (.getfield 266, 3) := by decide +kernel
theorem dX6_toldTimes_137 : decode cX6_toldTimes 137 = .ok (.iadd, 1) := by decide +kernel
theorem dX6_toldTimes_138 : decode cX6_toldTimes 138 = .ok (.lshl, 1) := by decide +kernel
theorem dX6_toldTimes_139 : decode cX6_toldTimes 139 = .ok (.lor, 1) := by decide +kernel
theorem dX6_toldTimes_140 : decode cX6_toldTimes 140 = .ok (.lstore_n 1, 1) := by decide +kernel
theorem dX6_toldTimes_141 : decode cX6_toldTimes 141 = .ok (.iinc 5 1, 3) := by decide +kernel
theorem dX6_toldTimes_144 : decode cX6_toldTimes 144 = .ok (.goto (-71), 3) := by decide +kernel
theorem dX6_toldTimes_147 : decode cX6_toldTimes 147 = .ok (.iinc 4 1, 3) := by decide +kernel
theorem dX6_toldTimes_150 : decode cX6_toldTimes 150 = .ok (.goto (-107), 3) := by decide +kernel
theorem dX6_toldTimes_153 : decode cX6_toldTimes 153 = .ok (.iinc 3 1, 3) := by decide +kernel
theorem dX6_toldTimes_156 : decode cX6_toldTimes 156 = .ok (.goto (-122), 3) := by decide +kernel
theorem dX6_toldTimes_159 : decode cX6_toldTimes 159 = .ok (.lload_n 1, 1) := by decide +kernel
theorem dX6_toldTimes_160 : decode cX6_toldTimes 160 = .ok (.lreturn, 1) := by decide +kernel
end
section
theorem dX6_times_0 : decode cX6_times 0 = .ok (.aload_n 0, 1) := by decide +kernel
theorem dX6_times_1 : decode cX6_times 1 = .ok (.iload_n 1, 1) := by decide +kernel
theorem dX6_times_2 : decode cX6_times 2 = .ok (.invokevirtual 276, 3) := by decide +kernel
theorem dX6_times_5 : decode cX6_times 5 = .ok (.ifCond .ne 7, 3) := by decide +kernel
theorem dX6_times_8 : decode cX6_times 8 = .ok (.ldc2_w 279, 3) := by decide +kernel
theorem dX6_times_11 : decode cX6_times 11 = .ok (.lreturn, 1) := by decide +kernel
theorem dX6_times_12 : decode cX6_times 12 = .ok (.aload_n 0, 1) := by decide +kernel
theorem dX6_times_13 : decode cX6_times 13 = .ok (.iload_n 1, 1) := by decide +kernel
theorem dX6_times_14 : decode cX6_times 14 = .ok (.invokevirtual 281, 3) := by decide +kernel
theorem dX6_times_17 : decode cX6_times 17 = .ok (.aload_n 0, 1) := by decide +kernel
theorem dX6_times_18 : decode cX6_times 18 = .ok (.invokevirtual 284, 3) := by decide +kernel
theorem dX6_times_21 : decode cX6_times 21 = .ok (.lreturn, 1) := by decide +kernel
theorem dX6_isWay_0 : decode cX6_isWay 0 = .ok (.iload_n 1, 1) := by decide +kernel
theorem dX6_isWay_1 : decode cX6_isWay 1 = .ok (.aload_n 0, 1) := by decide +kernel
theorem dX6_isWay_2 : decode cX6_isWay 2 = .ok (.getfield 258, 3) := by decide +kernel
theorem dX6_isWay_5 : decode cX6_isWay 5 = .ok (.if_icmp .gt 23, 3) := by decide +kernel
theorem dX6_isWay_8 : decode cX6_isWay 8 = .ok (.iload_n 2, 1) := by decide +kernel
theorem dX6_isWay_9 : decode cX6_isWay 9 = .ok (.aload_n 0, 1) := by decide +kernel
theorem dX6_isWay_10 : decode cX6_isWay 10 = .ok (.getfield 260, 3) := by decide +kernel
theorem dX6_isWay_13 : decode cX6_isWay 13 = .ok (.if_icmp .gt 15, 3) := by decide +kernel
theorem dX6_isWay_16 : decode cX6_isWay 16 = .ok (.iload_n 3, 1) := by decide +kernel
theorem dX6_isWay_17 : decode cX6_isWay 17 = .ok (.aload_n 0, 1) := by decide +kernel
theorem dX6_isWay_18 : decode cX6_isWay 18 = .ok (.getfield 263, 3) := by decide +kernel
theorem dX6_isWay_21 : decode cX6_isWay 21 = .ok (.if_icmp .gt 7, 3) := by decide +kernel
theorem dX6_isWay_24 : decode cX6_isWay 24 = .ok (.iconst 1, 1) := by decide +kernel
theorem dX6_isWay_25 : decode cX6_isWay 25 = .ok (.goto 4, 3) := by decide +kernel
theorem dX6_isWay_28 : decode cX6_isWay 28 = .ok (.iconst 0, 1) := by decide +kernel
theorem dX6_isWay_29 : decode cX6_isWay 29 = .ok (.ireturn, 1) := by decide +kernel
theorem dX6_counts_0 : decode cX6_counts 0 = .ok (.iload_n 1, 1) := by decide +kernel
theorem dX6_counts_1 : decode cX6_counts 1 = .ok (.iconst 1, 1) := by decide +kernel
theorem dX6_counts_2 : decode cX6_counts 2 = .ok (.isub, 1) := by decide +kernel
theorem dX6_counts_3 : decode cX6_counts 3 = .ok (.istore_n 2, 1) := by decide +kernel
theorem dX6_counts_4 : decode cX6_counts 4 = .ok (.iload_n 2, 1) := by decide +kernel
theorem dX6_counts_5 : decode cX6_counts 5 = .ok (.ifCond .lt 122, 3) := by decide +kernel
theorem dX6_counts_8 : decode cX6_counts 8 = .ok (.iconst 0, 1) := by decide +kernel
theorem dX6_counts_9 : decode cX6_counts 9 = .ok (.istore_n 3, 1) := by decide +kernel
theorem dX6_counts_10 : decode cX6_counts 10 = .ok (.iload_n 3, 1) := by decide +kernel
theorem dX6_counts_11 : decode cX6_counts 11 = .ok (.sipush 1000, 3) := by decide +kernel
theorem dX6_counts_14 : decode cX6_counts 14 = .ok (.if_icmp .ge 107, 3) := by decide +kernel
theorem dX6_counts_17 : decode cX6_counts 17 = .ok (.aload_n 0, 1) := by decide +kernel
theorem dX6_counts_18 : decode cX6_counts 18 = .ok (.getfield 56, 3) := by decide +kernel
theorem dX6_counts_21 : decode cX6_counts 21 = .ok (.sipush 1000, 3) := by decide +kernel
theorem dX6_counts_24 : decode cX6_counts 24 = .ok (.iload_n 2, 1) := by decide +kernel
theorem dX6_counts_25 : decode cX6_counts 25 = .ok (.imul, 1) := by decide +kernel
theorem dX6_counts_26 : decode cX6_counts 26 = .ok (.iload_n 3, 1) := by decide +kernel
theorem dX6_counts_27 : decode cX6_counts 27 = .ok (.iadd, 1) := by decide +kernel
theorem dX6_counts_28 : decode cX6_counts 28 = .ok (.sipush 9999, 3) := by decide +kernel
theorem dX6_counts_31 : decode cX6_counts 31 = .ok (.iastore, 1) := by decide +kernel
theorem dX6_counts_32 : decode cX6_counts 32 = .ok (.aload_n 0, 1) := by decide +kernel
theorem dX6_counts_33 : decode cX6_counts 33 = .ok (.iload_n 3, 1) := by decide +kernel
theorem dX6_counts_34 : decode cX6_counts 34 = .ok (.bipush 100, 2) := by decide +kernel
theorem dX6_counts_36 : decode cX6_counts 36 = .ok (.idiv, 1) := by decide +kernel
theorem dX6_counts_37 : decode cX6_counts 37 = .ok (.iload_n 3, 1) := by decide +kernel
theorem dX6_counts_38 : decode cX6_counts 38 = .ok (.bipush 10, 2) := by decide +kernel
theorem dX6_counts_40 : decode cX6_counts 40 = .ok (.idiv, 1) := by decide +kernel
theorem dX6_counts_41 : decode cX6_counts 41 = .ok (.bipush 10, 2) := by decide +kernel
theorem dX6_counts_43 : decode cX6_counts 43 = .ok (.irem, 1) := by decide +kernel
theorem dX6_counts_44 : decode cX6_counts 44 = .ok (.iload_n 3, 1) := by decide +kernel
theorem dX6_counts_45 : decode cX6_counts 45 = .ok (.bipush 10, 2) := by decide +kernel
theorem dX6_counts_47 : decode cX6_counts 47 = .ok (.irem, 1) := by decide +kernel
theorem dX6_counts_48 : decode cX6_counts 48 = .ok (.invokevirtual 288, 3) := by decide +kernel
theorem dX6_counts_51 : decode cX6_counts 51 = .ok (.ifCond .ne 6, 3) := by decide +kernel
theorem dX6_counts_54 : decode cX6_counts 54 = .ok (.goto 61, 3) := by decide +kernel
theorem dX6_counts_57 : decode cX6_counts 57 = .ok (.iconst 0, 1) := by decide +kernel
theorem dX6_counts_58 : decode cX6_counts 58 = .ok (.istore 4, 2) := by decide +kernel
theorem dX6_counts_60 : decode cX6_counts 60 = .ok (.iload 4, 2) := by decide +kernel
theorem dX6_counts_62 : decode cX6_counts 62 = .ok (.bipush 8, 2) := by decide +kernel
theorem dX6_counts_64 : decode cX6_counts 64 = .ok (.if_icmp .ge 51, 3) := by decide +kernel
theorem dX6_counts_67 : decode cX6_counts 67 = .ok (.aload_n 0, 1) := by decide +kernel
theorem dX6_counts_68 : decode cX6_counts 68 = .ok (.iload_n 1, 1) := by decide +kernel
theorem dX6_counts_69 : decode cX6_counts 69 = .ok (.iload_n 2, 1) := by decide +kernel
theorem dX6_counts_70 : decode cX6_counts 70 = .ok (.iload_n 3, 1) := by decide +kernel
theorem dX6_counts_71 : decode cX6_counts 71 = .ok (.iload 4, 2) := by decide +kernel
theorem dX6_counts_73 : decode cX6_counts 73 = .ok (.invokevirtual 291, 3) := by decide +kernel
theorem dX6_counts_76 : decode cX6_counts 76 = .ok (.istore 5, 2) := by decide +kernel
theorem dX6_counts_78 : decode cX6_counts 78 = .ok (.iload 5, 2) := by decide +kernel
theorem dX6_counts_80 : decode cX6_counts 80 = .ok (.aload_n 0, 1) := by decide +kernel
theorem dX6_counts_81 : decode cX6_counts 81 = .ok (.getfield 56, 3) := by decide +kernel
theorem dX6_counts_84 : decode cX6_counts 84 = .ok (.sipush 1000, 3) := by decide +kernel
theorem dX6_counts_87 : decode cX6_counts 87 = .ok (.iload_n 2, 1) := by decide +kernel
theorem dX6_counts_88 : decode cX6_counts 88 = .ok (.imul, 1) := by decide +kernel
theorem dX6_counts_89 : decode cX6_counts 89 = .ok (.iload_n 3, 1) := by decide +kernel
theorem dX6_counts_90 : decode cX6_counts 90 = .ok (.iadd, 1) := by decide +kernel
theorem dX6_counts_91 : decode cX6_counts 91 = .ok (.iaload, 1) := by decide +kernel
theorem dX6_counts_92 : decode cX6_counts 92 = .ok (.if_icmp .ge 17, 3) := by decide +kernel
theorem dX6_counts_95 : decode cX6_counts 95 = .ok (.aload_n 0, 1) := by decide +kernel
theorem dX6_counts_96 : decode cX6_counts 96 = .ok (.getfield 56, 3) := by decide +kernel
theorem dX6_counts_99 : decode cX6_counts 99 = .ok (.sipush 1000, 3) := by decide +kernel
theorem dX6_counts_102 : decode cX6_counts 102 = .ok (.iload_n 2, 1) := by decide +kernel
theorem dX6_counts_103 : decode cX6_counts 103 = .ok (.imul, 1) := by decide +kernel
theorem dX6_counts_104 : decode cX6_counts 104 = .ok (.iload_n 3, 1) := by decide +kernel
theorem dX6_counts_105 : decode cX6_counts 105 = .ok (.iadd, 1) := by decide +kernel
theorem dX6_counts_106 : decode cX6_counts 106 = .ok (.iload 5, 2) := by decide +kernel
theorem dX6_counts_108 : decode cX6_counts 108 = .ok (.iastore, 1) := by decide +kernel
theorem dX6_counts_109 : decode cX6_counts 109 = .ok (.iinc 4 1, 3) := by decide +kernel
theorem dX6_counts_112 : decode cX6_counts 112 = .ok (.goto (-52), 3) := by decide +kernel
theorem dX6_counts_115 : decode cX6_counts 115 = .ok (.iinc 3 1, 3) := by decide +kernel
theorem dX6_counts_118 : decode cX6_counts 118 = .ok (.goto (-108), 3) := by decide +kernel
theorem dX6_counts_121 : decode cX6_counts 121 = .ok (.iinc 2 (-1), 3) := by decide +kernel
theorem dX6_counts_124 : decode cX6_counts 124 = .ok (.goto (-120), 3) := by decide +kernel
theorem dX6_counts_127 : decode cX6_counts 127 = .ok (.return_, 1) := by decide +kernel
theorem dX6_byFirst_0 : decode cX6_byFirst 0 = .ok (.aload_n 0, 1) := by decide +kernel
theorem dX6_byFirst_1 : decode cX6_byFirst 1 = .ok (.iload_n 3, 1) := by decide +kernel
theorem dX6_byFirst_2 : decode cX6_byFirst 2 = .ok (.iload 4, 2) := by decide +kernel
theorem dX6_byFirst_4 : decode cX6_byFirst 4 = .ok (.invokevirtual 272, 3) := by decide +kernel
theorem dX6_byFirst_7 : decode cX6_byFirst 7 = .ok (.iload_n 2, 1) := by decide +kernel
theorem dX6_byFirst_8 : decode cX6_byFirst 8 = .ok (.aload_n 0, 1) := by decide +kernel
theorem dX6_byFirst_9 : decode cX6_byFirst 9 = .ok (.getfield 266, 3) := by decide +kernel
theorem dX6_byFirst_12 : decode cX6_byFirst 12 = .ok (.iadd, 1) := by decide +kernel
theorem dX6_byFirst_13 : decode cX6_byFirst 13 = .ok (.istore 5, 2) := by decide +kernel
theorem dX6_byFirst_15 : decode cX6_byFirst 15 = .ok (.aload_n 0, 1) := by decide +kernel
theorem dX6_byFirst_16 : decode cX6_byFirst 16 = .ok (.getfield 266, 3) := by decide +kernel
theorem dX6_byFirst_19 : decode cX6_byFirst 19 = .ok (.ifCond .eq 9, 3) := by decide +kernel
theorem dX6_byFirst_22 : decode cX6_byFirst 22 = .ok (.iload 5, 2) := by decide +kernel
theorem dX6_byFirst_24 : decode cX6_byFirst 24 = .ok (.iload_n 1, 1) := by decide +kernel
theorem dX6_byFirst_25 : decode cX6_byFirst 25 = .ok (.if_icmp .le 7, 3) := by decide +kernel
theorem dX6_byFirst_28 : decode cX6_byFirst 28 = .ok (.sipush 9999, 3) := by decide +kernel
theorem dX6_byFirst_31 : decode cX6_byFirst 31 = .ok (.ireturn, 1) := by decide +kernel
theorem dX6_byFirst_32 : decode cX6_byFirst 32 = .ok (.iload 5, 2) := by decide +kernel
theorem dX6_byFirst_34 : decode cX6_byFirst 34 = .ok (.iload_n 1, 1) := by decide +kernel
theorem dX6_byFirst_35 : decode cX6_byFirst 35 = .ok (.if_icmp .ne 11, 3) := by decide +kernel
theorem dX6_byFirst_38 : decode cX6_byFirst 38 = .ok (.iload 4, 2) := by decide +kernel
theorem dX6_byFirst_40 : decode cX6_byFirst 40 = .ok (.invokestatic 295, 3) := by decide +kernel
theorem dX6_byFirst_43 : decode cX6_byFirst 43 = .ok (.goto 25, 3) := by decide +kernel
theorem dX6_byFirst_46 : decode cX6_byFirst 46 = .ok (.iload 4, 2) := by decide +kernel
theorem dX6_byFirst_48 : decode cX6_byFirst 48 = .ok (.invokestatic 295, 3) := by decide +kernel
theorem dX6_byFirst_51 : decode cX6_byFirst 51 = .ok (.aload_n 0, 1) := by decide +kernel
theorem dX6_byFirst_52 : decode cX6_byFirst 52 = .ok (.getfield 56, 3) := by decide +kernel
theorem dX6_byFirst_55 : decode cX6_byFirst 55 = .ok (.sipush 1000, 3) := by decide +kernel
theorem dX6_byFirst_58 : decode cX6_byFirst 58 = .ok (.iload 5, 2) := by decide +kernel
theorem dX6_byFirst_60 : decode cX6_byFirst 60 = .ok (.imul, 1) := by decide +kernel
theorem dX6_byFirst_61 : decode cX6_byFirst 61 = .ok (.aload_n 0, 1) := by decide +kernel
theorem dX6_byFirst_62 : decode cX6_byFirst 62 = .ok (.getfield 269, 3) := by decide +kernel
theorem dX6_byFirst_65 : decode cX6_byFirst 65 = .ok (.iadd, 1) := by decide +kernel
theorem dX6_byFirst_66 : decode cX6_byFirst 66 = .ok (.iaload, 1) := by decide +kernel
theorem dX6_byFirst_67 : decode cX6_byFirst 67 = .ok (.iadd, 1) := by decide +kernel
theorem dX6_byFirst_68 : decode cX6_byFirst 68 = .ok (.ireturn, 1) := by decide +kernel
theorem dX6_wayTo_0 : decode cX6_wayTo 0 = .ok (.iconst 0, 1) := by decide +kernel
theorem dX6_wayTo_1 : decode cX6_wayTo 1 = .ok (.istore_n 2, 1) := by decide +kernel
theorem dX6_wayTo_2 : decode cX6_wayTo 2 = .ok (.iconst 0, 1) := by decide +kernel
theorem dX6_wayTo_3 : decode cX6_wayTo 3 = .ok (.istore_n 3, 1) := by decide +kernel
theorem dX6_wayTo_4 : decode cX6_wayTo 4 = .ok (.iconst 0, 1) := by decide +kernel
theorem dX6_wayTo_5 : decode cX6_wayTo 5 = .ok (.istore 4, 2) := by decide +kernel
theorem dX6_wayTo_7 : decode cX6_wayTo 7 = .ok (.iconst 0, 1) := by decide +kernel
theorem dX6_wayTo_8 : decode cX6_wayTo 8 = .ok (.istore 5, 2) := by decide +kernel
theorem dX6_wayTo_10 : decode cX6_wayTo 10 = .ok (.iload_n 2, 1) := by decide +kernel
theorem dX6_wayTo_11 : decode cX6_wayTo 11 = .ok (.iload_n 1, 1) := by decide +kernel
theorem dX6_wayTo_12 : decode cX6_wayTo 12 = .ok (.if_icmp .ge 82, 3) := by decide +kernel
theorem dX6_wayTo_15 : decode cX6_wayTo 15 = .ok (.iconst 0, 1) := by decide +kernel
theorem dX6_wayTo_16 : decode cX6_wayTo 16 = .ok (.istore 6, 2) := by decide +kernel
theorem dX6_wayTo_18 : decode cX6_wayTo 18 = .ok (.aload_n 0, 1) := by decide +kernel
theorem dX6_wayTo_19 : decode cX6_wayTo 19 = .ok (.iload_n 1, 1) := by decide +kernel
theorem dX6_wayTo_20 : decode cX6_wayTo 20 = .ok (.iload_n 2, 1) := by decide +kernel
theorem dX6_wayTo_21 : decode cX6_wayTo 21 = .ok (.iload_n 3, 1) := by decide +kernel
theorem dX6_wayTo_22 : decode cX6_wayTo 22 = .ok (.iload 6, 2) := by decide +kernel
theorem dX6_wayTo_24 : decode cX6_wayTo 24 = .ok (.invokevirtual 291, 3) := by decide +kernel
theorem dX6_wayTo_27 : decode cX6_wayTo 27 = .ok (.aload_n 0, 1) := by decide +kernel
theorem dX6_wayTo_28 : decode cX6_wayTo 28 = .ok (.getfield 56, 3) := by decide +kernel
theorem dX6_wayTo_31 : decode cX6_wayTo 31 = .ok (.sipush 1000, 3) := by decide +kernel
theorem dX6_wayTo_34 : decode cX6_wayTo 34 = .ok (.iload_n 2, 1) := by decide +kernel
theorem dX6_wayTo_35 : decode cX6_wayTo 35 = .ok (.imul, 1) := by decide +kernel
theorem dX6_wayTo_36 : decode cX6_wayTo 36 = .ok (.iload_n 3, 1) := by decide +kernel
theorem dX6_wayTo_37 : decode cX6_wayTo 37 = .ok (.iadd, 1) := by decide +kernel
theorem dX6_wayTo_38 : decode cX6_wayTo 38 = .ok (.iaload, 1) := by decide +kernel
theorem dX6_wayTo_39 : decode cX6_wayTo 39 = .ok (.if_icmp .eq 9, 3) := by decide +kernel
theorem dX6_wayTo_42 : decode cX6_wayTo 42 = .ok (.iinc 6 1, 3) := by decide +kernel
theorem dX6_wayTo_45 : decode cX6_wayTo 45 = .ok (.goto (-27), 3) := by decide +kernel
theorem dX6_wayTo_48 : decode cX6_wayTo 48 = .ok (.aload_n 0, 1) := by decide +kernel
theorem dX6_wayTo_49 : decode cX6_wayTo 49 = .ok (.iload_n 3, 1) := by decide +kernel
theorem dX6_wayTo_50 : decode cX6_wayTo 50 = .ok (.iload 6, 2) := by decide +kernel
theorem dX6_wayTo_52 : decode cX6_wayTo 52 = .ok (.invokevirtual 272, 3) := by decide +kernel
theorem dX6_wayTo_55 : decode cX6_wayTo 55 = .ok (.iload_n 2, 1) := by decide +kernel
theorem dX6_wayTo_56 : decode cX6_wayTo 56 = .ok (.aload_n 0, 1) := by decide +kernel
theorem dX6_wayTo_57 : decode cX6_wayTo 57 = .ok (.getfield 266, 3) := by decide +kernel
theorem dX6_wayTo_60 : decode cX6_wayTo 60 = .ok (.iadd, 1) := by decide +kernel
theorem dX6_wayTo_61 : decode cX6_wayTo 61 = .ok (.istore_n 2, 1) := by decide +kernel
theorem dX6_wayTo_62 : decode cX6_wayTo 62 = .ok (.aload_n 0, 1) := by decide +kernel
theorem dX6_wayTo_63 : decode cX6_wayTo 63 = .ok (.getfield 269, 3) := by decide +kernel
theorem dX6_wayTo_66 : decode cX6_wayTo 66 = .ok (.istore_n 3, 1) := by decide +kernel
theorem dX6_wayTo_67 : decode cX6_wayTo 67 = .ok (.iinc 5 1, 3) := by decide +kernel
theorem dX6_wayTo_70 : decode cX6_wayTo 70 = .ok (.iload 5, 2) := by decide +kernel
theorem dX6_wayTo_72 : decode cX6_wayTo 72 = .ok (.bipush 9, 2) := by decide +kernel
theorem dX6_wayTo_74 : decode cX6_wayTo 74 = .ok (.if_icmp .le 5, 3) := by decide +kernel
theorem dX6_wayTo_77 : decode cX6_wayTo 77 = .ok (.iconst (-1), 1) := by decide +kernel
theorem dX6_wayTo_78 : decode cX6_wayTo 78 = .ok (.ireturn, 1) := by decide +kernel
theorem dX6_wayTo_79 : decode cX6_wayTo 79 = .ok (.bipush 10, 2) := by decide +kernel
theorem dX6_wayTo_81 : decode cX6_wayTo 81 = .ok (.iload 4, 2) := by decide +kernel
theorem dX6_wayTo_83 : decode cX6_wayTo 83 = .ok (.imul, 1) := by decide +kernel
theorem dX6_wayTo_84 : decode cX6_wayTo 84 = .ok (.iload 6, 2) := by decide +kernel
theorem dX6_wayTo_86 : decode cX6_wayTo 86 = .ok (.iadd, 1) := by decide +kernel
theorem dX6_wayTo_87 : decode cX6_wayTo 87 = .ok (.iconst 1, 1) := by decide +kernel
theorem dX6_wayTo_88 : decode cX6_wayTo 88 = .ok (.iadd, 1) := by decide +kernel
theorem dX6_wayTo_89 : decode cX6_wayTo 89 = .ok (.istore 4, 2) := by decide +kernel
theorem dX6_wayTo_91 : decode cX6_wayTo 91 = .ok (.goto (-81), 3) := by decide +kernel
theorem dX6_wayTo_94 : decode cX6_wayTo 94 = .ok (.iload 4, 2) := by decide +kernel
theorem dX6_wayTo_96 : decode cX6_wayTo 96 = .ok (.ireturn, 1) := by decide +kernel
theorem dX6_isMinute_0 : decode cX6_isMinute 0 = .ok (.iload_n 0, 1) := by decide +kernel
theorem dX6_isMinute_1 : decode cX6_isMinute 1 = .ok (.iconst 1, 1) := by decide +kernel
theorem dX6_isMinute_2 : decode cX6_isMinute 2 = .ok (.bipush 30, 2) := by decide +kernel
theorem dX6_isMinute_4 : decode cX6_isMinute 4 = .ok (.invokestatic 88, 3) := by decide +kernel
theorem dX6_isMinute_7 : decode cX6_isMinute 7 = .ok (.ireturn, 1) := by decide +kernel
theorem dX6_nextTold_0 : decode cX6_nextTold 0 = .ok (.aload_n 0, 1) := by decide +kernel
theorem dX6_nextTold_1 : decode cX6_nextTold 1 = .ok (.invokevirtual 284, 3) := by decide +kernel
theorem dX6_nextTold_4 : decode cX6_nextTold 4 = .ok (.lstore_n 2, 1) := by decide +kernel
theorem dX6_nextTold_5 : decode cX6_nextTold 5 = .ok (.iload_n 1, 1) := by decide +kernel
theorem dX6_nextTold_6 : decode cX6_nextTold 6 = .ok (.istore 4, 2) := by decide +kernel
theorem dX6_nextTold_8 : decode cX6_nextTold 8 = .ok (.iload 4, 2) := by decide +kernel
theorem dX6_nextTold_10 : decode cX6_nextTold 10 = .ok (.bipush 30, 2) := by decide +kernel
theorem dX6_nextTold_12 : decode cX6_nextTold 12 = .ok (.if_icmp .gt 23, 3) := by decide +kernel
theorem dX6_nextTold_15 : decode cX6_nextTold 15 = .ok (.lload_n 2, 1) := by decide +kernel
theorem dX6_nextTold_16 : decode cX6_nextTold 16 = .ok (.iload 4, 2) := by decide +kernel
theorem dX6_nextTold_18 : decode cX6_nextTold 18 = .ok (.lshr, 1) := by decide +kernel
theorem dX6_nextTold_19 : decode cX6_nextTold 19 = .ok (.lconst 1, 1) := by decide +kernel
theorem dX6_nextTold_20 : decode cX6_nextTold 20 = .ok (.land, 1) := by decide +kernel
theorem dX6_nextTold_21 : decode cX6_nextTold 21 = .ok (.lconst 1, 1) := by decide +kernel
theorem dX6_nextTold_22 : decode cX6_nextTold 22 = .ok (.lcmp, 1) := by decide +kernel
theorem dX6_nextTold_23 : decode cX6_nextTold 23 = .ok (.ifCond .ne 6, 3) := by decide +kernel
theorem dX6_nextTold_26 : decode cX6_nextTold 26 = .ok (.iload 4, 2) := by decide +kernel
theorem dX6_nextTold_28 : decode cX6_nextTold 28 = .ok (.ireturn, 1) := by decide +kernel
theorem dX6_nextTold_29 : decode cX6_nextTold 29 = .ok (.iinc 4 1, 3) := by decide +kernel
theorem dX6_nextTold_32 : decode cX6_nextTold 32 = .ok (.goto (-24), 3) := by decide +kernel
theorem dX6_nextTold_35 : decode cX6_nextTold 35 = .ok (.iconst (-1), 1) := by decide +kernel
theorem dX6_nextTold_36 : decode cX6_nextTold 36 = .ok (.ireturn, 1) := by decide +kernel
theorem dX6_fewest_0 : decode cX6_fewest 0 = .ok (.aload_n 0, 1) := by decide +kernel
theorem dX6_fewest_1 : decode cX6_fewest 1 = .ok (.iload_n 1, 1) := by decide +kernel
theorem dX6_fewest_2 : decode cX6_fewest 2 = .ok (.invokevirtual 276, 3) := by decide +kernel
theorem dX6_fewest_5 : decode cX6_fewest 5 = .ok (.ifCond .eq 19, 3) := by decide +kernel
theorem dX6_fewest_8 : decode cX6_fewest 8 = .ok (.iload_n 2, 1) := by decide +kernel
theorem dX6_fewest_9 : decode cX6_fewest 9 = .ok (.invokestatic 298, 3) := by decide +kernel
theorem dX6_fewest_12 : decode cX6_fewest 12 = .ok (.ifCond .eq 12, 3) := by decide +kernel
theorem dX6_fewest_15 : decode cX6_fewest 15 = .ok (.iload_n 3, 1) := by decide +kernel
theorem dX6_fewest_16 : decode cX6_fewest 16 = .ok (.iconst 0, 1) := by decide +kernel
theorem dX6_fewest_17 : decode cX6_fewest 17 = .ok (.iconst 2, 1) := by decide +kernel
theorem dX6_fewest_18 : decode cX6_fewest 18 = .ok (.invokestatic 88, 3) := by decide +kernel
theorem dX6_fewest_21 : decode cX6_fewest 21 = .ok (.ifCond .ne 6, 3) := by decide +kernel
theorem dX6_fewest_24 : decode cX6_fewest 24 = .ok (.bipush (-2), 2) := by decide +kernel
theorem dX6_fewest_26 : decode cX6_fewest 26 = .ok (.ireturn, 1) := by decide +kernel
theorem dX6_fewest_27 : decode cX6_fewest 27 = .ok (.aload_n 0, 1) := by decide +kernel
theorem dX6_fewest_28 : decode cX6_fewest 28 = .ok (.iload_n 1, 1) := by decide +kernel
theorem dX6_fewest_29 : decode cX6_fewest 29 = .ok (.invokevirtual 281, 3) := by decide +kernel
theorem dX6_fewest_32 : decode cX6_fewest 32 = .ok (.iload_n 3, 1) := by decide +kernel
theorem dX6_fewest_33 : decode cX6_fewest 33 = .ok (.iconst 2, 1) := by decide +kernel
theorem dX6_fewest_34 : decode cX6_fewest 34 = .ok (.if_icmp .ne 9, 3) := by decide +kernel
theorem dX6_fewest_37 : decode cX6_fewest 37 = .ok (.aload_n 0, 1) := by decide +kernel
theorem dX6_fewest_38 : decode cX6_fewest 38 = .ok (.iload_n 2, 1) := by decide +kernel
theorem dX6_fewest_39 : decode cX6_fewest 39 = .ok (.invokevirtual 301, 3) := by decide +kernel
theorem dX6_fewest_42 : decode cX6_fewest 42 = .ok (.ireturn, 1) := by decide +kernel
theorem dX6_fewest_43 : decode cX6_fewest 43 = .ok (.aload_n 0, 1) := by decide +kernel
theorem dX6_fewest_44 : decode cX6_fewest 44 = .ok (.iload_n 2, 1) := by decide +kernel
theorem dX6_fewest_45 : decode cX6_fewest 45 = .ok (.invokevirtual 304, 3) := by decide +kernel
theorem dX6_fewest_48 : decode cX6_fewest 48 = .ok (.aload_n 0, 1) := by decide +kernel
theorem dX6_fewest_49 : decode cX6_fewest 49 = .ok (.getfield 56, 3) := by decide +kernel
theorem dX6_fewest_52 : decode cX6_fewest 52 = .ok (.iconst 0, 1) := by decide +kernel
theorem dX6_fewest_53 : decode cX6_fewest 53 = .ok (.iaload, 1) := by decide +kernel
theorem dX6_fewest_54 : decode cX6_fewest 54 = .ok (.sipush 9999, 3) := by decide +kernel
theorem dX6_fewest_57 : decode cX6_fewest 57 = .ok (.if_icmp .lt 5, 3) := by decide +kernel
theorem dX6_fewest_60 : decode cX6_fewest 60 = .ok (.iconst (-1), 1) := by decide +kernel
theorem dX6_fewest_61 : decode cX6_fewest 61 = .ok (.ireturn, 1) := by decide +kernel
theorem dX6_fewest_62 : decode cX6_fewest 62 = .ok (.iload_n 3, 1) := by decide +kernel
theorem dX6_fewest_63 : decode cX6_fewest 63 = .ok (.ifCond .ne 12, 3) := by decide +kernel
theorem dX6_fewest_66 : decode cX6_fewest 66 = .ok (.aload_n 0, 1) := by decide +kernel
theorem dX6_fewest_67 : decode cX6_fewest 67 = .ok (.getfield 56, 3) := by decide +kernel
theorem dX6_fewest_70 : decode cX6_fewest 70 = .ok (.iconst 0, 1) := by decide +kernel
theorem dX6_fewest_71 : decode cX6_fewest 71 = .ok (.iaload, 1) := by decide +kernel
theorem dX6_fewest_72 : decode cX6_fewest 72 = .ok (.goto 8, 3) := by decide +kernel
theorem dX6_fewest_75 : decode cX6_fewest 75 = .ok (.aload_n 0, 1) := by decide +kernel
theorem dX6_fewest_76 : decode cX6_fewest 76 = .ok (.iload_n 2, 1) := by decide +kernel
theorem dX6_fewest_77 : decode cX6_fewest 77 = .ok (.invokevirtual 307, 3) := by decide +kernel
theorem dX6_fewest_80 : decode cX6_fewest 80 = .ok (.ireturn, 1) := by decide +kernel
theorem dX6_best_0 : decode cX6_best 0 = .ok (.iload_n 1, 1) := by decide +kernel
theorem dX6_best_1 : decode cX6_best 1 = .ok (.invokestatic 298, 3) := by decide +kernel
theorem dX6_best_4 : decode cX6_best 4 = .ok (.ifCond .eq 12, 3) := by decide +kernel
theorem dX6_best_7 : decode cX6_best 7 = .ok (.iload_n 2, 1) := by decide +kernel
theorem dX6_best_8 : decode cX6_best 8 = .ok (.iconst 0, 1) := by decide +kernel
theorem dX6_best_9 : decode cX6_best 9 = .ok (.iconst 1, 1) := by decide +kernel
theorem dX6_best_10 : decode cX6_best 10 = .ok (.invokestatic 88, 3) := by decide +kernel
theorem dX6_best_13 : decode cX6_best 13 = .ok (.ifCond .ne 6, 3) := by decide +kernel
theorem dX6_best_16 : decode cX6_best 16 = .ok (.bipush (-2), 2) := by decide +kernel
theorem dX6_best_18 : decode cX6_best 18 = .ok (.ireturn, 1) := by decide +kernel
theorem dX6_best_19 : decode cX6_best 19 = .ok (.aload_n 0, 1) := by decide +kernel
theorem dX6_best_20 : decode cX6_best 20 = .ok (.getfield 85, 3) := by decide +kernel
theorem dX6_best_23 : decode cX6_best 23 = .ok (.iconst 4, 1) := by decide +kernel
theorem dX6_best_24 : decode cX6_best 24 = .ok (.if_icmp .le 6, 3) := by decide +kernel
theorem dX6_best_27 : decode cX6_best 27 = .ok (.bipush (-3), 2) := by decide +kernel
theorem dX6_best_29 : decode cX6_best 29 = .ok (.ireturn, 1) := by decide +kernel
theorem dX6_best_30 : decode cX6_best 30 = .ok (.iconst (-1), 1) := by decide +kernel
theorem dX6_best_31 : decode cX6_best 31 = .ok (.istore_n 3, 1) := by decide +kernel
theorem dX6_best_32 : decode cX6_best 32 = .ok (.sipush 9999, 3) := by decide +kernel
theorem dX6_best_35 : decode cX6_best 35 = .ok (.istore 4, 2) := by decide +kernel
theorem dX6_best_37 : decode cX6_best 37 = .ok (.iconst 0, 1) := by decide +kernel
theorem dX6_best_38 : decode cX6_best 38 = .ok (.istore 5, 2) := by decide +kernel
theorem dX6_best_40 : decode cX6_best 40 = .ok (.iload 5, 2) := by decide +kernel
theorem dX6_best_42 : decode cX6_best 42 = .ok (.sipush 1000, 3) := by decide +kernel
theorem dX6_best_45 : decode cX6_best 45 = .ok (.if_icmp .ge 89, 3) := by decide +kernel
theorem dX6_best_48 : decode cX6_best 48 = .ok (.iload 5, 2) := by decide +kernel
theorem dX6_best_50 : decode cX6_best 50 = .ok (.bipush 100, 2) := by decide +kernel
theorem dX6_best_52 : decode cX6_best 52 = .ok (.idiv, 1) := by decide +kernel
theorem dX6_best_53 : decode cX6_best 53 = .ok (.iload 5, 2) := by decide +kernel
theorem dX6_best_55 : decode cX6_best 55 = .ok (.bipush 10, 2) := by decide +kernel
theorem dX6_best_57 : decode cX6_best 57 = .ok (.idiv, 1) := by decide +kernel
theorem dX6_best_58 : decode cX6_best 58 = .ok (.bipush 10, 2) := by decide +kernel
theorem dX6_best_60 : decode cX6_best 60 = .ok (.irem, 1) := by decide +kernel
theorem dX6_best_61 : decode cX6_best 61 = .ok (.if_icmp .ge 67, 3) := by decide +kernel
theorem dX6_best_64 : decode cX6_best 64 = .ok (.iload 5, 2) := by decide +kernel
theorem dX6_best_66 : decode cX6_best 66 = .ok (.bipush 10, 2) := by decide +kernel
theorem dX6_best_68 : decode cX6_best 68 = .ok (.idiv, 1) := by decide +kernel
theorem dX6_best_69 : decode cX6_best 69 = .ok (.bipush 10, 2) := by decide +kernel
theorem dX6_best_71 : decode cX6_best 71 = .ok (.irem, 1) := by decide +kernel
theorem dX6_best_72 : decode cX6_best 72 = .ok (.iload 5, 2) := by decide +kernel
theorem dX6_best_74 : decode cX6_best 74 = .ok (.bipush 10, 2) := by decide +kernel
theorem dX6_best_76 : decode cX6_best 76 = .ok (.irem, 1) := by decide +kernel
theorem dX6_best_77 : decode cX6_best 77 = .ok (.if_icmp .ge 51, 3) := by decide +kernel
theorem dX6_best_80 : decode cX6_best 80 = .ok (.aload_n 0, 1) := by decide +kernel
theorem dX6_best_81 : decode cX6_best 81 = .ok (.iload 5, 2) := by decide +kernel
theorem dX6_best_83 : decode cX6_best 83 = .ok (.invokevirtual 276, 3) := by decide +kernel
theorem dX6_best_86 : decode cX6_best 86 = .ok (.ifCond .ne 6, 3) := by decide +kernel
theorem dX6_best_89 : decode cX6_best 89 = .ok (.goto 39, 3) := by decide +kernel
theorem dX6_best_92 : decode cX6_best 92 = .ok (.aload_n 0, 1) := by decide +kernel
theorem dX6_best_93 : decode cX6_best 93 = .ok (.iload 5, 2) := by decide +kernel
theorem dX6_best_95 : decode cX6_best 95 = .ok (.invokevirtual 281, 3) := by decide +kernel
theorem dX6_best_98 : decode cX6_best 98 = .ok (.aload_n 0, 1) := by decide +kernel
theorem dX6_best_99 : decode cX6_best 99 = .ok (.iload_n 1, 1) := by decide +kernel
theorem dX6_best_100 : decode cX6_best 100 = .ok (.invokevirtual 304, 3) := by decide +kernel
theorem dX6_best_103 : decode cX6_best 103 = .ok (.aload_n 0, 1) := by decide +kernel
theorem dX6_best_104 : decode cX6_best 104 = .ok (.getfield 56, 3) := by decide +kernel
theorem dX6_best_107 : decode cX6_best 107 = .ok (.iconst 0, 1) := by decide +kernel
theorem dX6_best_108 : decode cX6_best 108 = .ok (.iaload, 1) := by decide +kernel
theorem dX6_best_109 : decode cX6_best 109 = .ok (.iload 4, 2) := by decide +kernel
theorem dX6_best_111 : decode cX6_best 111 = .ok (.if_icmp .lt 6, 3) := by decide +kernel
theorem dX6_best_114 : decode cX6_best 114 = .ok (.goto 14, 3) := by decide +kernel
theorem dX6_best_117 : decode cX6_best 117 = .ok (.aload_n 0, 1) := by decide +kernel
theorem dX6_best_118 : decode cX6_best 118 = .ok (.getfield 56, 3) := by decide +kernel
theorem dX6_best_121 : decode cX6_best 121 = .ok (.iconst 0, 1) := by decide +kernel
theorem dX6_best_122 : decode cX6_best 122 = .ok (.iaload, 1) := by decide +kernel
theorem dX6_best_123 : decode cX6_best 123 = .ok (.istore 4, 2) := by decide +kernel
theorem dX6_best_125 : decode cX6_best 125 = .ok (.iload 5, 2) := by decide +kernel
theorem dX6_best_127 : decode cX6_best 127 = .ok (.istore_n 3, 1) := by decide +kernel
theorem dX6_best_128 : decode cX6_best 128 = .ok (.iinc 5 1, 3) := by decide +kernel
theorem dX6_best_131 : decode cX6_best 131 = .ok (.goto (-91), 3) := by decide +kernel
theorem dX6_best_134 : decode cX6_best 134 = .ok (.iload_n 2, 1) := by decide +kernel
theorem dX6_best_135 : decode cX6_best 135 = .ok (.ifCond .ne 7, 3) := by decide +kernel
theorem dX6_best_138 : decode cX6_best 138 = .ok (.iload_n 3, 1) := by decide +kernel
theorem dX6_best_139 : decode cX6_best 139 = .ok (.goto 14, 3) := by decide +kernel
theorem dX6_best_142 : decode cX6_best 142 = .ok (.iload_n 3, 1) := by decide +kernel
theorem dX6_best_143 : decode cX6_best 143 = .ok (.iconst (-1), 1) := by decide +kernel
theorem dX6_best_144 : decode cX6_best 144 = .ok (.if_icmp .ne 7, 3) := by decide +kernel
theorem dX6_best_147 : decode cX6_best 147 = .ok (.iconst (-1), 1) := by decide +kernel
theorem dX6_best_148 : decode cX6_best 148 = .ok (.goto 5, 3) := by decide +kernel
theorem dX6_best_151 : decode cX6_best 151 = .ok (.iload 4, 2) := by decide +kernel
theorem dX6_best_153 : decode cX6_best 153 = .ok (.ireturn, 1) := by decide +kernel
theorem dX6_isTold_0 : decode cX6_isTold 0 = .ok (.aload_n 0, 1) := by decide +kernel
theorem dX6_isTold_1 : decode cX6_isTold 1 = .ok (.iload_n 1, 1) := by decide +kernel
theorem dX6_isTold_2 : decode cX6_isTold 2 = .ok (.invokevirtual 281, 3) := by decide +kernel
theorem dX6_isTold_5 : decode cX6_isTold 5 = .ok (.aload_n 0, 1) := by decide +kernel
theorem dX6_isTold_6 : decode cX6_isTold 6 = .ok (.invokevirtual 284, 3) := by decide +kernel
theorem dX6_isTold_9 : decode cX6_isTold 9 = .ok (.iload_n 2, 1) := by decide +kernel
theorem dX6_isTold_10 : decode cX6_isTold 10 = .ok (.lshr, 1) := by decide +kernel
theorem dX6_isTold_11 : decode cX6_isTold 11 = .ok (.lconst 1, 1) := by decide +kernel
theorem dX6_isTold_12 : decode cX6_isTold 12 = .ok (.land, 1) := by decide +kernel
theorem dX6_isTold_13 : decode cX6_isTold 13 = .ok (.lconst 1, 1) := by decide +kernel
theorem dX6_isTold_14 : decode cX6_isTold 14 = .ok (.lcmp, 1) := by decide +kernel
theorem dX6_isTold_15 : decode cX6_isTold 15 = .ok (.ifCond .ne 7, 3) := by decide +kernel
theorem dX6_isTold_18 : decode cX6_isTold 18 = .ok (.iconst 1, 1) := by decide +kernel
theorem dX6_isTold_19 : decode cX6_isTold 19 = .ok (.goto 4, 3) := by decide +kernel
theorem dX6_isTold_22 : decode cX6_isTold 22 = .ok (.iconst 0, 1) := by decide +kernel
theorem dX6_isTold_23 : decode cX6_isTold 23 = .ok (.ireturn, 1) := by decide +kernel
theorem dX6_drawFor_0 : decode cX6_drawFor 0 = .ok (.iload_n 1, 1) := by decide +kernel
theorem dX6_drawFor_1 : decode cX6_drawFor 1 = .ok (.bipush 100, 2) := by decide +kernel
theorem dX6_drawFor_3 : decode cX6_drawFor 3 = .ok (.idiv, 1) := by decide +kernel
theorem dX6_drawFor_4 : decode cX6_drawFor 4 = .ok (.istore_n 3, 1) := by decide +kernel
theorem dX6_drawFor_5 : decode cX6_drawFor 5 = .ok (.iload_n 1, 1) := by decide +kernel
theorem dX6_drawFor_6 : decode cX6_drawFor 6 = .ok (.bipush 10, 2) := by decide +kernel
theorem dX6_drawFor_8 : decode cX6_drawFor 8 = .ok (.idiv, 1) := by decide +kernel
theorem dX6_drawFor_9 : decode cX6_drawFor 9 = .ok (.bipush 10, 2) := by decide +kernel
theorem dX6_drawFor_11 : decode cX6_drawFor 11 = .ok (.irem, 1) := by decide +kernel
theorem dX6_drawFor_12 : decode cX6_drawFor 12 = .ok (.istore 4, 2) := by decide +kernel
theorem dX6_drawFor_14 : decode cX6_drawFor 14 = .ok (.aload_n 0, 1) := by decide +kernel
theorem dX6_drawFor_15 : decode cX6_drawFor 15 = .ok (.getfield 16, 3) := by decide +kernel
theorem dX6_drawFor_18 : decode cX6_drawFor 18 = .ok (.iload_n 3, 1) := by decide +kernel
theorem dX6_drawFor_19 : decode cX6_drawFor 19 = .ok (.iaload, 1) := by decide +kernel
theorem dX6_drawFor_20 : decode cX6_drawFor 20 = .ok (.bipush 40, 2) := by decide +kernel
theorem dX6_drawFor_22 : decode cX6_drawFor 22 = .ok (.if_icmp .ge 12, 3) := by decide +kernel
theorem dX6_drawFor_25 : decode cX6_drawFor 25 = .ok (.aload_n 0, 1) := by decide +kernel
theorem dX6_drawFor_26 : decode cX6_drawFor 26 = .ok (.getfield 16, 3) := by decide +kernel
theorem dX6_drawFor_29 : decode cX6_drawFor 29 = .ok (.iload_n 3, 1) := by decide +kernel
theorem dX6_drawFor_30 : decode cX6_drawFor 30 = .ok (.iaload, 1) := by decide +kernel
theorem dX6_drawFor_31 : decode cX6_drawFor 31 = .ok (.goto 5, 3) := by decide +kernel
theorem dX6_drawFor_34 : decode cX6_drawFor 34 = .ok (.bipush 40, 2) := by decide +kernel
theorem dX6_drawFor_36 : decode cX6_drawFor 36 = .ok (.istore 5, 2) := by decide +kernel
theorem dX6_drawFor_38 : decode cX6_drawFor 38 = .ok (.iconst (-1), 1) := by decide +kernel
theorem dX6_drawFor_39 : decode cX6_drawFor 39 = .ok (.istore 6, 2) := by decide +kernel
theorem dX6_drawFor_41 : decode cX6_drawFor 41 = .ok (.aload_n 0, 1) := by decide +kernel
theorem dX6_drawFor_42 : decode cX6_drawFor 42 = .ok (.invokevirtual 246, 3) := by decide +kernel
theorem dX6_drawFor_45 : decode cX6_drawFor 45 = .ok (.iconst 0, 1) := by decide +kernel
theorem dX6_drawFor_46 : decode cX6_drawFor 46 = .ok (.istore 7, 2) := by decide +kernel
theorem dX6_drawFor_48 : decode cX6_drawFor 48 = .ok (.iload 7, 2) := by decide +kernel
theorem dX6_drawFor_50 : decode cX6_drawFor 50 = .ok (.iload 5, 2) := by decide +kernel
theorem dX6_drawFor_52 : decode cX6_drawFor 52 = .ok (.if_icmp .gt 41, 3) := by decide +kernel
theorem dX6_drawFor_55 : decode cX6_drawFor 55 = .ok (.iload 6, 2) := by decide +kernel
theorem dX6_drawFor_57 : decode cX6_drawFor 57 = .ok (.iconst (-1), 1) := by decide +kernel
theorem dX6_drawFor_58 : decode cX6_drawFor 58 = .ok (.if_icmp .ne 35, 3) := by decide +kernel
theorem dX6_drawFor_61 : decode cX6_drawFor 61 = .ok (.aload_n 0, 1) := by decide +kernel
theorem dX6_drawFor_62 : decode cX6_drawFor 62 = .ok (.iload_n 3, 1) := by decide +kernel
theorem dX6_drawFor_63 : decode cX6_drawFor 63 = .ok (.iload 4, 2) := by decide +kernel
theorem dX6_drawFor_65 : decode cX6_drawFor 65 = .ok (.iload 7, 2) := by decide +kernel
theorem dX6_drawFor_67 : decode cX6_drawFor 67 = .ok (.invokevirtual 236, 3) := by decide +kernel
theorem dX6_drawFor_70 : decode cX6_drawFor 70 = .ok (.aload_n 0, 1) := by decide +kernel
theorem dX6_drawFor_71 : decode cX6_drawFor 71 = .ok (.iload_n 1, 1) := by decide +kernel
theorem dX6_drawFor_72 : decode cX6_drawFor 72 = .ok (.iload_n 2, 1) := by decide +kernel
theorem dX6_drawFor_73 : decode cX6_drawFor 73 = .ok (.invokevirtual 310, 3) := by decide +kernel
theorem dX6_drawFor_76 : decode cX6_drawFor 76 = .ok (.ifCond .eq 7, 3) := by decide +kernel
theorem dX6_drawFor_79 : decode cX6_drawFor 79 = .ok (.iload 7, 2) := by decide +kernel
theorem dX6_drawFor_81 : decode cX6_drawFor 81 = .ok (.istore 6, 2) := by decide +kernel
theorem dX6_drawFor_83 : decode cX6_drawFor 83 = .ok (.aload_n 0, 1) := by decide +kernel
theorem dX6_drawFor_84 : decode cX6_drawFor 84 = .ok (.invokevirtual 249, 3) := by decide +kernel
theorem dX6_drawFor_87 : decode cX6_drawFor 87 = .ok (.iinc 7 1, 3) := by decide +kernel
theorem dX6_drawFor_90 : decode cX6_drawFor 90 = .ok (.goto (-42), 3) := by decide +kernel
theorem dX6_drawFor_93 : decode cX6_drawFor 93 = .ok (.iload 6, 2) := by decide +kernel
theorem dX6_drawFor_95 : decode cX6_drawFor 95 = .ok (.ireturn, 1) := by decide +kernel
theorem dX6_daysFor_0 : decode cX6_daysFor 0 = .ok (.iconst (-1), 1) := by decide +kernel
theorem dX6_daysFor_1 : decode cX6_daysFor 1 = .ok (.istore_n 3, 1) := by decide +kernel
theorem dX6_daysFor_2 : decode cX6_daysFor 2 = .ok (.aload_n 0, 1) := by decide +kernel
theorem dX6_daysFor_3 : decode cX6_daysFor 3 = .ok (.invokevirtual 246, 3) := by decide +kernel
theorem dX6_daysFor_6 : decode cX6_daysFor 6 = .ok (.iconst 0, 1) := by decide +kernel
theorem dX6_daysFor_7 : decode cX6_daysFor 7 = .ok (.istore 4, 2) := by decide +kernel
theorem dX6_daysFor_9 : decode cX6_daysFor 9 = .ok (.iload 4, 2) := by decide +kernel
theorem dX6_daysFor_11 : decode cX6_daysFor 11 = .ok (.bipush 10, 2) := by decide +kernel
theorem dX6_daysFor_13 : decode cX6_daysFor 13 = .ok (.if_icmp .gt 35, 3) := by decide +kernel
theorem dX6_daysFor_16 : decode cX6_daysFor 16 = .ok (.iload_n 3, 1) := by decide +kernel
theorem dX6_daysFor_17 : decode cX6_daysFor 17 = .ok (.iconst (-1), 1) := by decide +kernel
theorem dX6_daysFor_18 : decode cX6_daysFor 18 = .ok (.if_icmp .ne 30, 3) := by decide +kernel
theorem dX6_daysFor_21 : decode cX6_daysFor 21 = .ok (.iload 4, 2) := by decide +kernel
theorem dX6_daysFor_23 : decode cX6_daysFor 23 = .ok (.ifCond .le 7, 3) := by decide +kernel
theorem dX6_daysFor_26 : decode cX6_daysFor 26 = .ok (.aload_n 0, 1) := by decide +kernel
theorem dX6_daysFor_27 : decode cX6_daysFor 27 = .ok (.invokevirtual 230, 3) := by decide +kernel
theorem dX6_daysFor_30 : decode cX6_daysFor 30 = .ok (.aload_n 0, 1) := by decide +kernel
theorem dX6_daysFor_31 : decode cX6_daysFor 31 = .ok (.iload_n 1, 1) := by decide +kernel
theorem dX6_daysFor_32 : decode cX6_daysFor 32 = .ok (.iload_n 2, 1) := by decide +kernel
theorem dX6_daysFor_33 : decode cX6_daysFor 33 = .ok (.invokevirtual 310, 3) := by decide +kernel
theorem dX6_daysFor_36 : decode cX6_daysFor 36 = .ok (.ifCond .eq 6, 3) := by decide +kernel
theorem dX6_daysFor_39 : decode cX6_daysFor 39 = .ok (.iload 4, 2) := by decide +kernel
theorem dX6_daysFor_41 : decode cX6_daysFor 41 = .ok (.istore_n 3, 1) := by decide +kernel
theorem dX6_daysFor_42 : decode cX6_daysFor 42 = .ok (.iinc 4 1, 3) := by decide +kernel
theorem dX6_daysFor_45 : decode cX6_daysFor 45 = .ok (.goto (-36), 3) := by decide +kernel
theorem dX6_daysFor_48 : decode cX6_daysFor 48 = .ok (.aload_n 0, 1) := by decide +kernel
theorem dX6_daysFor_49 : decode cX6_daysFor 49 = .ok (.invokevirtual 249, 3) := by decide +kernel
theorem dX6_daysFor_52 : decode cX6_daysFor 52 = .ok (.iload_n 3, 1) := by decide +kernel
theorem dX6_daysFor_53 : decode cX6_daysFor 53 = .ok (.ireturn, 1) := by decide +kernel
theorem dX6_makes_0 : decode cX6_makes 0 = .ok (.aload_n 0, 1) := by decide +kernel
theorem dX6_makes_1 : decode cX6_makes 1 = .ok (.iload_n 1, 1) := by decide +kernel
theorem dX6_makes_2 : decode cX6_makes 2 = .ok (.invokevirtual 276, 3) := by decide +kernel
theorem dX6_makes_5 : decode cX6_makes 5 = .ok (.ifCond .eq 19, 3) := by decide +kernel
theorem dX6_makes_8 : decode cX6_makes 8 = .ok (.iload_n 2, 1) := by decide +kernel
theorem dX6_makes_9 : decode cX6_makes 9 = .ok (.invokestatic 298, 3) := by decide +kernel
theorem dX6_makes_12 : decode cX6_makes 12 = .ok (.ifCond .eq 12, 3) := by decide +kernel
theorem dX6_makes_15 : decode cX6_makes 15 = .ok (.iload_n 3, 1) := by decide +kernel
theorem dX6_makes_16 : decode cX6_makes 16 = .ok (.iconst 0, 1) := by decide +kernel
theorem dX6_makes_17 : decode cX6_makes 17 = .ok (.iconst 1, 1) := by decide +kernel
theorem dX6_makes_18 : decode cX6_makes 18 = .ok (.invokestatic 88, 3) := by decide +kernel
theorem dX6_makes_21 : decode cX6_makes 21 = .ok (.ifCond .ne 6, 3) := by decide +kernel
theorem dX6_makes_24 : decode cX6_makes 24 = .ok (.bipush (-2), 2) := by decide +kernel
theorem dX6_makes_26 : decode cX6_makes 26 = .ok (.ireturn, 1) := by decide +kernel
theorem dX6_makes_27 : decode cX6_makes 27 = .ok (.iload_n 3, 1) := by decide +kernel
theorem dX6_makes_28 : decode cX6_makes 28 = .ok (.ifCond .ne 12, 3) := by decide +kernel
theorem dX6_makes_31 : decode cX6_makes 31 = .ok (.aload_n 0, 1) := by decide +kernel
theorem dX6_makes_32 : decode cX6_makes 32 = .ok (.iload_n 1, 1) := by decide +kernel
theorem dX6_makes_33 : decode cX6_makes 33 = .ok (.iload_n 2, 1) := by decide +kernel
theorem dX6_makes_34 : decode cX6_makes 34 = .ok (.invokevirtual 313, 3) := by decide +kernel
theorem dX6_makes_37 : decode cX6_makes 37 = .ok (.goto 9, 3) := by decide +kernel
theorem dX6_makes_40 : decode cX6_makes 40 = .ok (.aload_n 0, 1) := by decide +kernel
theorem dX6_makes_41 : decode cX6_makes 41 = .ok (.iload_n 1, 1) := by decide +kernel
theorem dX6_makes_42 : decode cX6_makes 42 = .ok (.iload_n 2, 1) := by decide +kernel
theorem dX6_makes_43 : decode cX6_makes 43 = .ok (.invokevirtual 316, 3) := by decide +kernel
theorem dX6_makes_46 : decode cX6_makes 46 = .ok (.ireturn, 1) := by decide +kernel
theorem dX6_wrong_0 : decode cX6_wrong 0 = .ok (.aload_n 0, 1) := by decide +kernel
theorem dX6_wrong_1 : decode cX6_wrong 1 = .ok (.invokevirtual 246, 3) := by decide +kernel
theorem dX6_wrong_4 : decode cX6_wrong 4 = .ok (.iconst (-1), 1) := by decide +kernel
theorem dX6_wrong_5 : decode cX6_wrong 5 = .ok (.istore_n 3, 1) := by decide +kernel
theorem dX6_wrong_6 : decode cX6_wrong 6 = .ok (.iconst 0, 1) := by decide +kernel
theorem dX6_wrong_7 : decode cX6_wrong 7 = .ok (.istore 4, 2) := by decide +kernel
theorem dX6_wrong_9 : decode cX6_wrong 9 = .ok (.iload 4, 2) := by decide +kernel
theorem dX6_wrong_11 : decode cX6_wrong 11 = .ok (.aload_n 0, 1) := by decide +kernel
theorem dX6_wrong_12 : decode cX6_wrong 12 = .ok (.getfield 71, 3) := by decide +kernel
theorem dX6_wrong_15 : decode cX6_wrong 15 = .ok (.iload_n 1, 1) := by decide +kernel
theorem dX6_wrong_16 : decode cX6_wrong 16 = .ok (.iaload, 1) := by decide +kernel
theorem dX6_wrong_17 : decode cX6_wrong 17 = .ok (.if_icmp .ge 46, 3) := by decide +kernel
theorem dX6_wrong_20 : decode cX6_wrong 20 = .ok (.iload_n 3, 1) := by decide +kernel
theorem dX6_wrong_21 : decode cX6_wrong 21 = .ok (.iconst (-1), 1) := by decide +kernel
theorem dX6_wrong_22 : decode cX6_wrong 22 = .ok (.if_icmp .ne 41, 3) := by decide +kernel
theorem dX6_wrong_25 : decode cX6_wrong 25 = .ok (.iload 4, 2) := by decide +kernel
theorem dX6_wrong_27 : decode cX6_wrong 27 = .ok (.ifCond .le 7, 3) := by decide +kernel
theorem dX6_wrong_30 : decode cX6_wrong 30 = .ok (.aload_n 0, 1) := by decide +kernel
theorem dX6_wrong_31 : decode cX6_wrong 31 = .ok (.invokevirtual 230, 3) := by decide +kernel
theorem dX6_wrong_34 : decode cX6_wrong 34 = .ok (.aload_n 0, 1) := by decide +kernel
theorem dX6_wrong_35 : decode cX6_wrong 35 = .ok (.iload_n 2, 1) := by decide +kernel
theorem dX6_wrong_36 : decode cX6_wrong 36 = .ok (.invokevirtual 120, 3) := by decide +kernel
theorem dX6_wrong_39 : decode cX6_wrong 39 = .ok (.aload_n 0, 1) := by decide +kernel
theorem dX6_wrong_40 : decode cX6_wrong 40 = .ok (.getfield 74, 3) := by decide +kernel
theorem dX6_wrong_43 : decode cX6_wrong 43 = .ok (.bipush 40, 2) := by decide +kernel
theorem dX6_wrong_45 : decode cX6_wrong 45 = .ok (.iload_n 1, 1) := by decide +kernel
theorem dX6_wrong_46 : decode cX6_wrong 46 = .ok (.imul, 1) := by decide +kernel
theorem dX6_wrong_47 : decode cX6_wrong 47 = .ok (.iload 4, 2) := by decide +kernel
theorem dX6_wrong_49 : decode cX6_wrong 49 = .ok (.iadd, 1) := by decide +kernel
theorem dX6_wrong_50 : decode cX6_wrong 50 = .ok (.iaload, 1) := by decide +kernel
theorem dX6_wrong_51 : decode cX6_wrong 51 = .ok (.if_icmp .eq 6, 3) := by decide +kernel
theorem dX6_wrong_54 : decode cX6_wrong 54 = .ok (.iload 4, 2) := by decide +kernel
theorem dX6_wrong_56 : decode cX6_wrong 56 = .ok (.istore_n 3, 1) := by decide +kernel
theorem dX6_wrong_57 : decode cX6_wrong 57 = .ok (.iinc 4 1, 3) := by decide +kernel
theorem dX6_wrong_60 : decode cX6_wrong 60 = .ok (.goto (-51), 3) := by decide +kernel
theorem dX6_wrong_63 : decode cX6_wrong 63 = .ok (.aload_n 0, 1) := by decide +kernel
theorem dX6_wrong_64 : decode cX6_wrong 64 = .ok (.invokevirtual 249, 3) := by decide +kernel
theorem dX6_wrong_67 : decode cX6_wrong 67 = .ok (.iload_n 3, 1) := by decide +kernel
theorem dX6_wrong_68 : decode cX6_wrong 68 = .ok (.ireturn, 1) := by decide +kernel
theorem dX6_isSo_0 : decode cX6_isSo 0 = .ok (.aload_n 0, 1) := by decide +kernel
theorem dX6_isSo_1 : decode cX6_isSo 1 = .ok (.iload_n 1, 1) := by decide +kernel
theorem dX6_isSo_2 : decode cX6_isSo 2 = .ok (.iload_n 2, 1) := by decide +kernel
theorem dX6_isSo_3 : decode cX6_isSo 3 = .ok (.invokevirtual 319, 3) := by decide +kernel
theorem dX6_isSo_6 : decode cX6_isSo 6 = .ok (.iconst (-1), 1) := by decide +kernel
theorem dX6_isSo_7 : decode cX6_isSo 7 = .ok (.if_icmp .ne 7, 3) := by decide +kernel
theorem dX6_isSo_10 : decode cX6_isSo 10 = .ok (.iconst 1, 1) := by decide +kernel
theorem dX6_isSo_11 : decode cX6_isSo 11 = .ok (.goto 4, 3) := by decide +kernel
theorem dX6_isSo_14 : decode cX6_isSo 14 = .ok (.iconst 0, 1) := by decide +kernel
theorem dX6_isSo_15 : decode cX6_isSo 15 = .ok (.ireturn, 1) := by decide +kernel
theorem dX6_kindsSo_0 : decode cX6_kindsSo 0 = .ok (.aload_n 0, 1) := by decide +kernel
theorem dX6_kindsSo_1 : decode cX6_kindsSo 1 = .ok (.getfield 7, 3) := by decide +kernel
theorem dX6_kindsSo_4 : decode cX6_kindsSo 4 = .ok (.iload_n 2, 1) := by decide +kernel
theorem dX6_kindsSo_5 : decode cX6_kindsSo 5 = .ok (.iaload, 1) := by decide +kernel
theorem dX6_kindsSo_6 : decode cX6_kindsSo 6 = .ok (.istore_n 3, 1) := by decide +kernel
theorem dX6_kindsSo_7 : decode cX6_kindsSo 7 = .ok (.iconst 0, 1) := by decide +kernel
theorem dX6_kindsSo_8 : decode cX6_kindsSo 8 = .ok (.istore 4, 2) := by decide +kernel
theorem dX6_kindsSo_10 : decode cX6_kindsSo 10 = .ok (.iconst 0, 1) := by decide +kernel
theorem dX6_kindsSo_11 : decode cX6_kindsSo 11 = .ok (.istore 5, 2) := by decide +kernel
theorem dX6_kindsSo_13 : decode cX6_kindsSo 13 = .ok (.iload 5, 2) := by decide +kernel
theorem dX6_kindsSo_15 : decode cX6_kindsSo 15 = .ok (.bipush 6, 2) := by decide +kernel
theorem dX6_kindsSo_17 : decode cX6_kindsSo 17 = .ok (.if_icmp .ge 35, 3) := by decide +kernel
theorem dX6_kindsSo_20 : decode cX6_kindsSo 20 = .ok (.aload_n 0, 1) := by decide +kernel
theorem dX6_kindsSo_21 : decode cX6_kindsSo 21 = .ok (.getfield 7, 3) := by decide +kernel
theorem dX6_kindsSo_24 : decode cX6_kindsSo 24 = .ok (.iload_n 2, 1) := by decide +kernel
theorem dX6_kindsSo_25 : decode cX6_kindsSo 25 = .ok (.iload 5, 2) := by decide +kernel
theorem dX6_kindsSo_27 : decode cX6_kindsSo 27 = .ok (.iastore, 1) := by decide +kernel
theorem dX6_kindsSo_28 : decode cX6_kindsSo 28 = .ok (.aload_n 0, 1) := by decide +kernel
theorem dX6_kindsSo_29 : decode cX6_kindsSo 29 = .ok (.iload_n 1, 1) := by decide +kernel
theorem dX6_kindsSo_30 : decode cX6_kindsSo 30 = .ok (.iload_n 2, 1) := by decide +kernel
theorem dX6_kindsSo_31 : decode cX6_kindsSo 31 = .ok (.invokevirtual 322, 3) := by decide +kernel
theorem dX6_kindsSo_34 : decode cX6_kindsSo 34 = .ok (.ifCond .eq 12, 3) := by decide +kernel
theorem dX6_kindsSo_37 : decode cX6_kindsSo 37 = .ok (.iload 4, 2) := by decide +kernel
theorem dX6_kindsSo_39 : decode cX6_kindsSo 39 = .ok (.iconst 1, 1) := by decide +kernel
theorem dX6_kindsSo_40 : decode cX6_kindsSo 40 = .ok (.iload 5, 2) := by decide +kernel
theorem dX6_kindsSo_42 : decode cX6_kindsSo 42 = .ok (.ishl, 1) := by decide +kernel
theorem dX6_kindsSo_43 : decode cX6_kindsSo 43 = .ok (.ior, 1) := by decide +kernel
theorem dX6_kindsSo_44 : decode cX6_kindsSo 44 = .ok (.istore 4, 2) := by decide +kernel
theorem dX6_kindsSo_46 : decode cX6_kindsSo 46 = .ok (.iinc 5 1, 3) := by decide +kernel
theorem dX6_kindsSo_49 : decode cX6_kindsSo 49 = .ok (.goto (-36), 3) := by decide +kernel
theorem dX6_kindsSo_52 : decode cX6_kindsSo 52 = .ok (.aload_n 0, 1) := by decide +kernel
theorem dX6_kindsSo_53 : decode cX6_kindsSo 53 = .ok (.getfield 7, 3) := by decide +kernel
theorem dX6_kindsSo_56 : decode cX6_kindsSo 56 = .ok (.iload_n 2, 1) := by decide +kernel
theorem dX6_kindsSo_57 : decode cX6_kindsSo 57 = .ok (.iload_n 3, 1) := by decide +kernel
theorem dX6_kindsSo_58 : decode cX6_kindsSo 58 = .ok (.iastore, 1) := by decide +kernel
theorem dX6_kindsSo_59 : decode cX6_kindsSo 59 = .ok (.iload 4, 2) := by decide +kernel
theorem dX6_kindsSo_61 : decode cX6_kindsSo 61 = .ok (.ireturn, 1) := by decide +kernel
theorem dX6_numbersSo_0 : decode cX6_numbersSo 0 = .ok (.aload_n 0, 1) := by decide +kernel
theorem dX6_numbersSo_1 : decode cX6_numbersSo 1 = .ok (.getfield 13, 3) := by decide +kernel
theorem dX6_numbersSo_4 : decode cX6_numbersSo 4 = .ok (.iload_n 2, 1) := by decide +kernel
theorem dX6_numbersSo_5 : decode cX6_numbersSo 5 = .ok (.iaload, 1) := by decide +kernel
theorem dX6_numbersSo_6 : decode cX6_numbersSo 6 = .ok (.istore_n 3, 1) := by decide +kernel
theorem dX6_numbersSo_7 : decode cX6_numbersSo 7 = .ok (.iconst 0, 1) := by decide +kernel
theorem dX6_numbersSo_8 : decode cX6_numbersSo 8 = .ok (.istore 4, 2) := by decide +kernel
theorem dX6_numbersSo_10 : decode cX6_numbersSo 10 = .ok (.iconst 0, 1) := by decide +kernel
theorem dX6_numbersSo_11 : decode cX6_numbersSo 11 = .ok (.istore 5, 2) := by decide +kernel
theorem dX6_numbersSo_13 : decode cX6_numbersSo 13 = .ok (.iload 5, 2) := by decide +kernel
theorem dX6_numbersSo_15 : decode cX6_numbersSo 15 = .ok (.bipush 10, 2) := by decide +kernel
theorem dX6_numbersSo_17 : decode cX6_numbersSo 17 = .ok (.if_icmp .ge 35, 3) := by decide +kernel
theorem dX6_numbersSo_20 : decode cX6_numbersSo 20 = .ok (.aload_n 0, 1) := by decide +kernel
theorem dX6_numbersSo_21 : decode cX6_numbersSo 21 = .ok (.getfield 13, 3) := by decide +kernel
theorem dX6_numbersSo_24 : decode cX6_numbersSo 24 = .ok (.iload_n 2, 1) := by decide +kernel
theorem dX6_numbersSo_25 : decode cX6_numbersSo 25 = .ok (.iload 5, 2) := by decide +kernel
theorem dX6_numbersSo_27 : decode cX6_numbersSo 27 = .ok (.iastore, 1) := by decide +kernel
theorem dX6_numbersSo_28 : decode cX6_numbersSo 28 = .ok (.aload_n 0, 1) := by decide +kernel
theorem dX6_numbersSo_29 : decode cX6_numbersSo 29 = .ok (.iload_n 1, 1) := by decide +kernel
theorem dX6_numbersSo_30 : decode cX6_numbersSo 30 = .ok (.iload_n 2, 1) := by decide +kernel
theorem dX6_numbersSo_31 : decode cX6_numbersSo 31 = .ok (.invokevirtual 322, 3) := by decide +kernel
theorem dX6_numbersSo_34 : decode cX6_numbersSo 34 = .ok (.ifCond .eq 12, 3) := by decide +kernel
theorem dX6_numbersSo_37 : decode cX6_numbersSo 37 = .ok (.iload 4, 2) := by decide +kernel
theorem dX6_numbersSo_39 : decode cX6_numbersSo 39 = .ok (.iconst 1, 1) := by decide +kernel
theorem dX6_numbersSo_40 : decode cX6_numbersSo 40 = .ok (.iload 5, 2) := by decide +kernel
theorem dX6_numbersSo_42 : decode cX6_numbersSo 42 = .ok (.ishl, 1) := by decide +kernel
theorem dX6_numbersSo_43 : decode cX6_numbersSo 43 = .ok (.ior, 1) := by decide +kernel
theorem dX6_numbersSo_44 : decode cX6_numbersSo 44 = .ok (.istore 4, 2) := by decide +kernel
theorem dX6_numbersSo_46 : decode cX6_numbersSo 46 = .ok (.iinc 5 1, 3) := by decide +kernel
theorem dX6_numbersSo_49 : decode cX6_numbersSo 49 = .ok (.goto (-36), 3) := by decide +kernel
theorem dX6_numbersSo_52 : decode cX6_numbersSo 52 = .ok (.aload_n 0, 1) := by decide +kernel
theorem dX6_numbersSo_53 : decode cX6_numbersSo 53 = .ok (.getfield 13, 3) := by decide +kernel
theorem dX6_numbersSo_56 : decode cX6_numbersSo 56 = .ok (.iload_n 2, 1) := by decide +kernel
theorem dX6_numbersSo_57 : decode cX6_numbersSo 57 = .ok (.iload_n 3, 1) := by decide +kernel
theorem dX6_numbersSo_58 : decode cX6_numbersSo 58 = .ok (.iastore, 1) := by decide +kernel
theorem dX6_numbersSo_59 : decode cX6_numbersSo 59 = .ok (.iload 4, 2) := by decide +kernel
theorem dX6_numbersSo_61 : decode cX6_numbersSo 61 = .ok (.ireturn, 1) := by decide +kernel
theorem dX6_wetsSo_0 : decode cX6_wetsSo 0 = .ok (.aload_n 0, 1) := by decide +kernel
theorem dX6_wetsSo_1 : decode cX6_wetsSo 1 = .ok (.getfield 99, 3) := by decide +kernel
theorem dX6_wetsSo_4 : decode cX6_wetsSo 4 = .ok (.istore_n 3, 1) := by decide +kernel
theorem dX6_wetsSo_5 : decode cX6_wetsSo 5 = .ok (.iconst 0, 1) := by decide +kernel
theorem dX6_wetsSo_6 : decode cX6_wetsSo 6 = .ok (.istore 4, 2) := by decide +kernel
theorem dX6_wetsSo_8 : decode cX6_wetsSo 8 = .ok (.iconst 0, 1) := by decide +kernel
theorem dX6_wetsSo_9 : decode cX6_wetsSo 9 = .ok (.istore 5, 2) := by decide +kernel
theorem dX6_wetsSo_11 : decode cX6_wetsSo 11 = .ok (.iload 5, 2) := by decide +kernel
theorem dX6_wetsSo_13 : decode cX6_wetsSo 13 = .ok (.bipush 10, 2) := by decide +kernel
theorem dX6_wetsSo_15 : decode cX6_wetsSo 15 = .ok (.if_icmp .ge 33, 3) := by decide +kernel
theorem dX6_wetsSo_18 : decode cX6_wetsSo 18 = .ok (.aload_n 0, 1) := by decide +kernel
theorem dX6_wetsSo_19 : decode cX6_wetsSo 19 = .ok (.iload 5, 2) := by decide +kernel
theorem dX6_wetsSo_21 : decode cX6_wetsSo 21 = .ok (.putfield 99, 3) := by decide +kernel
theorem dX6_wetsSo_24 : decode cX6_wetsSo 24 = .ok (.aload_n 0, 1) := by decide +kernel
theorem dX6_wetsSo_25 : decode cX6_wetsSo 25 = .ok (.iload_n 1, 1) := by decide +kernel
theorem dX6_wetsSo_26 : decode cX6_wetsSo 26 = .ok (.iload_n 2, 1) := by decide +kernel
theorem dX6_wetsSo_27 : decode cX6_wetsSo 27 = .ok (.invokevirtual 322, 3) := by decide +kernel
theorem dX6_wetsSo_30 : decode cX6_wetsSo 30 = .ok (.ifCond .eq 12, 3) := by decide +kernel
theorem dX6_wetsSo_33 : decode cX6_wetsSo 33 = .ok (.iload 4, 2) := by decide +kernel
theorem dX6_wetsSo_35 : decode cX6_wetsSo 35 = .ok (.iconst 1, 1) := by decide +kernel
theorem dX6_wetsSo_36 : decode cX6_wetsSo 36 = .ok (.iload 5, 2) := by decide +kernel
theorem dX6_wetsSo_38 : decode cX6_wetsSo 38 = .ok (.ishl, 1) := by decide +kernel
theorem dX6_wetsSo_39 : decode cX6_wetsSo 39 = .ok (.ior, 1) := by decide +kernel
theorem dX6_wetsSo_40 : decode cX6_wetsSo 40 = .ok (.istore 4, 2) := by decide +kernel
theorem dX6_wetsSo_42 : decode cX6_wetsSo 42 = .ok (.iinc 5 1, 3) := by decide +kernel
theorem dX6_wetsSo_45 : decode cX6_wetsSo 45 = .ok (.goto (-34), 3) := by decide +kernel
theorem dX6_wetsSo_48 : decode cX6_wetsSo 48 = .ok (.aload_n 0, 1) := by decide +kernel
theorem dX6_wetsSo_49 : decode cX6_wetsSo 49 = .ok (.iload_n 3, 1) := by decide +kernel
theorem dX6_wetsSo_50 : decode cX6_wetsSo 50 = .ok (.putfield 99, 3) := by decide +kernel
theorem dX6_wetsSo_53 : decode cX6_wetsSo 53 = .ok (.iload 4, 2) := by decide +kernel
theorem dX6_wetsSo_55 : decode cX6_wetsSo 55 = .ok (.ireturn, 1) := by decide +kernel
theorem dX6_ruesSo_0 : decode cX6_ruesSo 0 = .ok (.aload_n 0, 1) := by decide +kernel
theorem dX6_ruesSo_1 : decode cX6_ruesSo 1 = .ok (.getfield 16, 3) := by decide +kernel
theorem dX6_ruesSo_4 : decode cX6_ruesSo 4 = .ok (.iload_n 2, 1) := by decide +kernel
theorem dX6_ruesSo_5 : decode cX6_ruesSo 5 = .ok (.iaload, 1) := by decide +kernel
theorem dX6_ruesSo_6 : decode cX6_ruesSo 6 = .ok (.istore 4, 2) := by decide +kernel
theorem dX6_ruesSo_8 : decode cX6_ruesSo 8 = .ok (.iconst 0, 1) := by decide +kernel
theorem dX6_ruesSo_9 : decode cX6_ruesSo 9 = .ok (.istore 5, 2) := by decide +kernel
theorem dX6_ruesSo_11 : decode cX6_ruesSo 11 = .ok (.iconst (-1), 1) := by decide +kernel
theorem dX6_ruesSo_12 : decode cX6_ruesSo 12 = .ok (.istore 6, 2) := by decide +kernel
theorem dX6_ruesSo_14 : decode cX6_ruesSo 14 = .ok (.bipush 99, 2) := by decide +kernel
theorem dX6_ruesSo_16 : decode cX6_ruesSo 16 = .ok (.istore 7, 2) := by decide +kernel
theorem dX6_ruesSo_18 : decode cX6_ruesSo 18 = .ok (.iload 7, 2) := by decide +kernel
theorem dX6_ruesSo_20 : decode cX6_ruesSo 20 = .ok (.ifCond .lt 36, 3) := by decide +kernel
theorem dX6_ruesSo_23 : decode cX6_ruesSo 23 = .ok (.aload_n 0, 1) := by decide +kernel
theorem dX6_ruesSo_24 : decode cX6_ruesSo 24 = .ok (.getfield 16, 3) := by decide +kernel
theorem dX6_ruesSo_27 : decode cX6_ruesSo 27 = .ok (.iload_n 2, 1) := by decide +kernel
theorem dX6_ruesSo_28 : decode cX6_ruesSo 28 = .ok (.iload 7, 2) := by decide +kernel
theorem dX6_ruesSo_30 : decode cX6_ruesSo 30 = .ok (.iastore, 1) := by decide +kernel
theorem dX6_ruesSo_31 : decode cX6_ruesSo 31 = .ok (.aload_n 0, 1) := by decide +kernel
theorem dX6_ruesSo_32 : decode cX6_ruesSo 32 = .ok (.iload_n 1, 1) := by decide +kernel
theorem dX6_ruesSo_33 : decode cX6_ruesSo 33 = .ok (.iload_n 2, 1) := by decide +kernel
theorem dX6_ruesSo_34 : decode cX6_ruesSo 34 = .ok (.invokevirtual 322, 3) := by decide +kernel
theorem dX6_ruesSo_37 : decode cX6_ruesSo 37 = .ok (.ifCond .ne 6, 3) := by decide +kernel
theorem dX6_ruesSo_40 : decode cX6_ruesSo 40 = .ok (.goto 10, 3) := by decide +kernel
theorem dX6_ruesSo_43 : decode cX6_ruesSo 43 = .ok (.iinc 5 1, 3) := by decide +kernel
theorem dX6_ruesSo_46 : decode cX6_ruesSo 46 = .ok (.iload 7, 2) := by decide +kernel
theorem dX6_ruesSo_48 : decode cX6_ruesSo 48 = .ok (.istore 6, 2) := by decide +kernel
theorem dX6_ruesSo_50 : decode cX6_ruesSo 50 = .ok (.iinc 7 (-1), 3) := by decide +kernel
theorem dX6_ruesSo_53 : decode cX6_ruesSo 53 = .ok (.goto (-35), 3) := by decide +kernel
theorem dX6_ruesSo_56 : decode cX6_ruesSo 56 = .ok (.aload_n 0, 1) := by decide +kernel
theorem dX6_ruesSo_57 : decode cX6_ruesSo 57 = .ok (.getfield 16, 3) := by decide +kernel
theorem dX6_ruesSo_60 : decode cX6_ruesSo 60 = .ok (.iload_n 2, 1) := by decide +kernel
theorem dX6_ruesSo_61 : decode cX6_ruesSo 61 = .ok (.iload 4, 2) := by decide +kernel
theorem dX6_ruesSo_63 : decode cX6_ruesSo 63 = .ok (.iastore, 1) := by decide +kernel
theorem dX6_ruesSo_64 : decode cX6_ruesSo 64 = .ok (.iload_n 3, 1) := by decide +kernel
theorem dX6_ruesSo_65 : decode cX6_ruesSo 65 = .ok (.ifCond .ne 8, 3) := by decide +kernel
theorem dX6_ruesSo_68 : decode cX6_ruesSo 68 = .ok (.iload 5, 2) := by decide +kernel
theorem dX6_ruesSo_70 : decode cX6_ruesSo 70 = .ok (.goto 5, 3) := by decide +kernel
theorem dX6_ruesSo_73 : decode cX6_ruesSo 73 = .ok (.iload 6, 2) := by decide +kernel
theorem dX6_ruesSo_75 : decode cX6_ruesSo 75 = .ok (.ireturn, 1) := by decide +kernel
theorem dX6_textsSo_0 : decode cX6_textsSo 0 = .ok (.aload_n 0, 1) := by decide +kernel
theorem dX6_textsSo_1 : decode cX6_textsSo 1 = .ok (.getfield 211, 3) := by decide +kernel
theorem dX6_textsSo_4 : decode cX6_textsSo 4 = .ok (.istore_n 3, 1) := by decide +kernel
theorem dX6_textsSo_5 : decode cX6_textsSo 5 = .ok (.iconst 0, 1) := by decide +kernel
theorem dX6_textsSo_6 : decode cX6_textsSo 6 = .ok (.istore 4, 2) := by decide +kernel
theorem dX6_textsSo_8 : decode cX6_textsSo 8 = .ok (.iconst 0, 1) := by decide +kernel
theorem dX6_textsSo_9 : decode cX6_textsSo 9 = .ok (.istore 5, 2) := by decide +kernel
theorem dX6_textsSo_11 : decode cX6_textsSo 11 = .ok (.iload 5, 2) := by decide +kernel
theorem dX6_textsSo_13 : decode cX6_textsSo 13 = .ok (.aload_n 0, 1) := by decide +kernel
theorem dX6_textsSo_14 : decode cX6_textsSo 14 = .ok (.getfield 81, 3) := by decide +kernel
theorem dX6_textsSo_17 : decode cX6_textsSo 17 = .ok (.if_icmp .ge 33, 3) := by decide +kernel
theorem dX6_textsSo_20 : decode cX6_textsSo 20 = .ok (.aload_n 0, 1) := by decide +kernel
theorem dX6_textsSo_21 : decode cX6_textsSo 21 = .ok (.iload 5, 2) := by decide +kernel
theorem dX6_textsSo_23 : decode cX6_textsSo 23 = .ok (.putfield 211, 3) := by decide +kernel
theorem dX6_textsSo_26 : decode cX6_textsSo 26 = .ok (.aload_n 0, 1) := by decide +kernel
theorem dX6_textsSo_27 : decode cX6_textsSo 27 = .ok (.iload_n 1, 1) := by decide +kernel
theorem dX6_textsSo_28 : decode cX6_textsSo 28 = .ok (.iload_n 2, 1) := by decide +kernel
theorem dX6_textsSo_29 : decode cX6_textsSo 29 = .ok (.invokevirtual 322, 3) := by decide +kernel
theorem dX6_textsSo_32 : decode cX6_textsSo 32 = .ok (.ifCond .eq 12, 3) := by decide +kernel
theorem dX6_textsSo_35 : decode cX6_textsSo 35 = .ok (.iload 4, 2) := by decide +kernel
theorem dX6_textsSo_37 : decode cX6_textsSo 37 = .ok (.iconst 1, 1) := by decide +kernel
theorem dX6_textsSo_38 : decode cX6_textsSo 38 = .ok (.iload 5, 2) := by decide +kernel
theorem dX6_textsSo_40 : decode cX6_textsSo 40 = .ok (.ishl, 1) := by decide +kernel
theorem dX6_textsSo_41 : decode cX6_textsSo 41 = .ok (.ior, 1) := by decide +kernel
theorem dX6_textsSo_42 : decode cX6_textsSo 42 = .ok (.istore 4, 2) := by decide +kernel
theorem dX6_textsSo_44 : decode cX6_textsSo 44 = .ok (.iinc 5 1, 3) := by decide +kernel
theorem dX6_textsSo_47 : decode cX6_textsSo 47 = .ok (.goto (-36), 3) := by decide +kernel
theorem dX6_textsSo_50 : decode cX6_textsSo 50 = .ok (.aload_n 0, 1) := by decide +kernel
theorem dX6_textsSo_51 : decode cX6_textsSo 51 = .ok (.iload_n 3, 1) := by decide +kernel
theorem dX6_textsSo_52 : decode cX6_textsSo 52 = .ok (.putfield 211, 3) := by decide +kernel
theorem dX6_textsSo_55 : decode cX6_textsSo 55 = .ok (.iload 4, 2) := by decide +kernel
theorem dX6_textsSo_57 : decode cX6_textsSo 57 = .ok (.ireturn, 1) := by decide +kernel
theorem dX6_peopleSo_0 : decode cX6_peopleSo 0 = .ok (.iconst 0, 1) := by decide +kernel
theorem dX6_peopleSo_1 : decode cX6_peopleSo 1 = .ok (.istore_n 2, 1) := by decide +kernel
theorem dX6_peopleSo_2 : decode cX6_peopleSo 2 = .ok (.iconst 0, 1) := by decide +kernel
theorem dX6_peopleSo_3 : decode cX6_peopleSo 3 = .ok (.istore_n 3, 1) := by decide +kernel
theorem dX6_peopleSo_4 : decode cX6_peopleSo 4 = .ok (.iload_n 3, 1) := by decide +kernel
theorem dX6_peopleSo_5 : decode cX6_peopleSo 5 = .ok (.aload_n 0, 1) := by decide +kernel
theorem dX6_peopleSo_6 : decode cX6_peopleSo 6 = .ok (.getfield 85, 3) := by decide +kernel
theorem dX6_peopleSo_9 : decode cX6_peopleSo 9 = .ok (.if_icmp .ge 24, 3) := by decide +kernel
theorem dX6_peopleSo_12 : decode cX6_peopleSo 12 = .ok (.aload_n 0, 1) := by decide +kernel
theorem dX6_peopleSo_13 : decode cX6_peopleSo 13 = .ok (.iload_n 1, 1) := by decide +kernel
theorem dX6_peopleSo_14 : decode cX6_peopleSo 14 = .ok (.iload_n 3, 1) := by decide +kernel
theorem dX6_peopleSo_15 : decode cX6_peopleSo 15 = .ok (.invokevirtual 322, 3) := by decide +kernel
theorem dX6_peopleSo_18 : decode cX6_peopleSo 18 = .ok (.ifCond .eq 9, 3) := by decide +kernel
theorem dX6_peopleSo_21 : decode cX6_peopleSo 21 = .ok (.iload_n 2, 1) := by decide +kernel
theorem dX6_peopleSo_22 : decode cX6_peopleSo 22 = .ok (.iconst 1, 1) := by decide +kernel
theorem dX6_peopleSo_23 : decode cX6_peopleSo 23 = .ok (.iload_n 3, 1) := by decide +kernel
theorem dX6_peopleSo_24 : decode cX6_peopleSo 24 = .ok (.ishl, 1) := by decide +kernel
theorem dX6_peopleSo_25 : decode cX6_peopleSo 25 = .ok (.ior, 1) := by decide +kernel
theorem dX6_peopleSo_26 : decode cX6_peopleSo 26 = .ok (.istore_n 2, 1) := by decide +kernel
theorem dX6_peopleSo_27 : decode cX6_peopleSo 27 = .ok (.iinc 3 1, 3) := by decide +kernel
theorem dX6_peopleSo_30 : decode cX6_peopleSo 30 = .ok (.goto (-26), 3) := by decide +kernel
theorem dX6_peopleSo_33 : decode cX6_peopleSo 33 = .ok (.iload_n 2, 1) := by decide +kernel
theorem dX6_peopleSo_34 : decode cX6_peopleSo 34 = .ok (.ireturn, 1) := by decide +kernel
theorem dX6_tells_0 : decode cX6_tells 0 = .ok (.iload_n 1, 1) := by decide +kernel
theorem dX6_tells_1 : decode cX6_tells 1 = .ok (.invokestatic 325, 3) := by decide +kernel
theorem dX6_tells_4 : decode cX6_tells 4 = .ok (.ifCond .eq 21, 3) := by decide +kernel
theorem dX6_tells_7 : decode cX6_tells 7 = .ok (.aload_n 0, 1) := by decide +kernel
theorem dX6_tells_8 : decode cX6_tells 8 = .ok (.iload_n 2, 1) := by decide +kernel
theorem dX6_tells_9 : decode cX6_tells 9 = .ok (.invokevirtual 92, 3) := by decide +kernel
theorem dX6_tells_12 : decode cX6_tells 12 = .ok (.ifCond .eq 13, 3) := by decide +kernel
theorem dX6_tells_15 : decode cX6_tells 15 = .ok (.iload_n 3, 1) := by decide +kernel
theorem dX6_tells_16 : decode cX6_tells 16 = .ok (.iconst 0, 1) := by decide +kernel
theorem dX6_tells_17 : decode cX6_tells 17 = .ok (.bipush 7, 2) := by decide +kernel
theorem dX6_tells_19 : decode cX6_tells 19 = .ok (.invokestatic 88, 3) := by decide +kernel
theorem dX6_tells_22 : decode cX6_tells 22 = .ok (.ifCond .ne 6, 3) := by decide +kernel
theorem dX6_tells_25 : decode cX6_tells 25 = .ok (.bipush (-2), 2) := by decide +kernel
theorem dX6_tells_27 : decode cX6_tells 27 = .ok (.ireturn, 1) := by decide +kernel
theorem dX6_tells_28 : decode cX6_tells 28 = .ok (.aload_n 0, 1) := by decide +kernel
theorem dX6_tells_29 : decode cX6_tells 29 = .ok (.getfield 68, 3) := by decide +kernel
theorem dX6_tells_32 : decode cX6_tells 32 = .ok (.iload_n 1, 1) := by decide +kernel
theorem dX6_tells_33 : decode cX6_tells 33 = .ok (.iaload, 1) := by decide +kernel
theorem dX6_tells_34 : decode cX6_tells 34 = .ok (.ifCond .ge 6, 3) := by decide +kernel
theorem dX6_tells_37 : decode cX6_tells 37 = .ok (.bipush (-11), 2) := by decide +kernel
theorem dX6_tells_39 : decode cX6_tells 39 = .ok (.ireturn, 1) := by decide +kernel
theorem dX6_tells_40 : decode cX6_tells 40 = .ok (.aload_n 0, 1) := by decide +kernel
theorem dX6_tells_41 : decode cX6_tells 41 = .ok (.getfield 71, 3) := by decide +kernel
theorem dX6_tells_44 : decode cX6_tells 44 = .ok (.iload_n 1, 1) := by decide +kernel
theorem dX6_tells_45 : decode cX6_tells 45 = .ok (.iaload, 1) := by decide +kernel
theorem dX6_tells_46 : decode cX6_tells 46 = .ok (.bipush 30, 2) := by decide +kernel
theorem dX6_tells_48 : decode cX6_tells 48 = .ok (.if_icmp .le 6, 3) := by decide +kernel
theorem dX6_tells_51 : decode cX6_tells 51 = .ok (.bipush (-2), 2) := by decide +kernel
theorem dX6_tells_53 : decode cX6_tells 53 = .ok (.ireturn, 1) := by decide +kernel
theorem dX6_tells_54 : decode cX6_tells 54 = .ok (.iload_n 3, 1) := by decide +kernel
theorem dX6_tells_55 : decode cX6_tells 55 = .ok (.tableswitch 92 0 6 #[41, 48, 55, 62, 69, 77, 85], 41) := by decide +kernel
theorem dX6_tells_96 : decode cX6_tells 96 = .ok (.aload_n 0, 1) := by decide +kernel
theorem dX6_tells_97 : decode cX6_tells 97 = .ok (.iload_n 1, 1) := by decide +kernel
theorem dX6_tells_98 : decode cX6_tells 98 = .ok (.iload_n 2, 1) := by decide +kernel
theorem dX6_tells_99 : decode cX6_tells 99 = .ok (.invokevirtual 319, 3) := by decide +kernel
theorem dX6_tells_102 : decode cX6_tells 102 = .ok (.ireturn, 1) := by decide +kernel
theorem dX6_tells_103 : decode cX6_tells 103 = .ok (.aload_n 0, 1) := by decide +kernel
theorem dX6_tells_104 : decode cX6_tells 104 = .ok (.iload_n 1, 1) := by decide +kernel
theorem dX6_tells_105 : decode cX6_tells 105 = .ok (.iload_n 2, 1) := by decide +kernel
theorem dX6_tells_106 : decode cX6_tells 106 = .ok (.invokevirtual 328, 3) := by decide +kernel
theorem dX6_tells_109 : decode cX6_tells 109 = .ok (.ireturn, 1) := by decide +kernel
theorem dX6_tells_110 : decode cX6_tells 110 = .ok (.aload_n 0, 1) := by decide +kernel
theorem dX6_tells_111 : decode cX6_tells 111 = .ok (.iload_n 1, 1) := by decide +kernel
theorem dX6_tells_112 : decode cX6_tells 112 = .ok (.iload_n 2, 1) := by decide +kernel
theorem dX6_tells_113 : decode cX6_tells 113 = .ok (.invokevirtual 331, 3) := by decide +kernel
theorem dX6_tells_116 : decode cX6_tells 116 = .ok (.ireturn, 1) := by decide +kernel
theorem dX6_tells_117 : decode cX6_tells 117 = .ok (.aload_n 0, 1) := by decide +kernel
theorem dX6_tells_118 : decode cX6_tells 118 = .ok (.iload_n 1, 1) := by decide +kernel
theorem dX6_tells_119 : decode cX6_tells 119 = .ok (.iload_n 2, 1) := by decide +kernel
theorem dX6_tells_120 : decode cX6_tells 120 = .ok (.invokevirtual 334, 3) := by decide +kernel
theorem dX6_tells_123 : decode cX6_tells 123 = .ok (.ireturn, 1) := by decide +kernel
theorem dX6_tells_124 : decode cX6_tells 124 = .ok (.aload_n 0, 1) := by decide +kernel
theorem dX6_tells_125 : decode cX6_tells 125 = .ok (.iload_n 1, 1) := by decide +kernel
theorem dX6_tells_126 : decode cX6_tells 126 = .ok (.iload_n 2, 1) := by decide +kernel
theorem dX6_tells_127 : decode cX6_tells 127 = .ok (.iconst 0, 1) := by decide +kernel
theorem dX6_tells_128 : decode cX6_tells 128 = .ok (.invokevirtual 337, 3) := by decide +kernel
theorem dX6_tells_131 : decode cX6_tells 131 = .ok (.ireturn, 1) := by decide +kernel
theorem dX6_tells_132 : decode cX6_tells 132 = .ok (.aload_n 0, 1) := by decide +kernel
theorem dX6_tells_133 : decode cX6_tells 133 = .ok (.iload_n 1, 1) := by decide +kernel
theorem dX6_tells_134 : decode cX6_tells 134 = .ok (.iload_n 2, 1) := by decide +kernel
theorem dX6_tells_135 : decode cX6_tells 135 = .ok (.iconst 1, 1) := by decide +kernel
theorem dX6_tells_136 : decode cX6_tells 136 = .ok (.invokevirtual 337, 3) := by decide +kernel
theorem dX6_tells_139 : decode cX6_tells 139 = .ok (.ireturn, 1) := by decide +kernel
theorem dX6_tells_140 : decode cX6_tells 140 = .ok (.aload_n 0, 1) := by decide +kernel
theorem dX6_tells_141 : decode cX6_tells 141 = .ok (.iload_n 1, 1) := by decide +kernel
theorem dX6_tells_142 : decode cX6_tells 142 = .ok (.iload_n 2, 1) := by decide +kernel
theorem dX6_tells_143 : decode cX6_tells 143 = .ok (.invokevirtual 340, 3) := by decide +kernel
theorem dX6_tells_146 : decode cX6_tells 146 = .ok (.ireturn, 1) := by decide +kernel
theorem dX6_tells_147 : decode cX6_tells 147 = .ok (.aload_n 0, 1) := by decide +kernel
theorem dX6_tells_148 : decode cX6_tells 148 = .ok (.iload_n 1, 1) := by decide +kernel
theorem dX6_tells_149 : decode cX6_tells 149 = .ok (.invokevirtual 343, 3) := by decide +kernel
theorem dX6_tells_152 : decode cX6_tells 152 = .ok (.ireturn, 1) := by decide +kernel
theorem dX6_film_0 : decode cX6_film 0 = .ok (.iload_n 1, 1) := by decide +kernel
theorem dX6_film_1 : decode cX6_film 1 = .ok (.invokestatic 325, 3) := by decide +kernel
theorem dX6_film_4 : decode cX6_film 4 = .ok (.ifCond .eq 21, 3) := by decide +kernel
theorem dX6_film_7 : decode cX6_film 7 = .ok (.aload_n 0, 1) := by decide +kernel
theorem dX6_film_8 : decode cX6_film 8 = .ok (.iload_n 2, 1) := by decide +kernel
theorem dX6_film_9 : decode cX6_film 9 = .ok (.invokevirtual 92, 3) := by decide +kernel
theorem dX6_film_12 : decode cX6_film 12 = .ok (.ifCond .eq 13, 3) := by decide +kernel
theorem dX6_film_15 : decode cX6_film 15 = .ok (.iload_n 3, 1) := by decide +kernel
theorem dX6_film_16 : decode cX6_film 16 = .ok (.iconst 0, 1) := by decide +kernel
theorem dX6_film_17 : decode cX6_film 17 = .ok (.bipush 30, 2) := by decide +kernel
theorem dX6_film_19 : decode cX6_film 19 = .ok (.invokestatic 88, 3) := by decide +kernel
theorem dX6_film_22 : decode cX6_film 22 = .ok (.ifCond .ne 6, 3) := by decide +kernel
theorem dX6_film_25 : decode cX6_film 25 = .ok (.bipush (-2), 2) := by decide +kernel
theorem dX6_film_27 : decode cX6_film 27 = .ok (.ireturn, 1) := by decide +kernel
theorem dX6_film_28 : decode cX6_film 28 = .ok (.aload_n 0, 1) := by decide +kernel
theorem dX6_film_29 : decode cX6_film 29 = .ok (.iload_n 1, 1) := by decide +kernel
theorem dX6_film_30 : decode cX6_film 30 = .ok (.iconst 0, 1) := by decide +kernel
theorem dX6_film_31 : decode cX6_film 31 = .ok (.iload_n 3, 1) := by decide +kernel
theorem dX6_film_32 : decode cX6_film 32 = .ok (.invokevirtual 346, 3) := by decide +kernel
theorem dX6_film_35 : decode cX6_film 35 = .ok (.pop, 1) := by decide +kernel
theorem dX6_film_36 : decode cX6_film 36 = .ok (.aload_n 0, 1) := by decide +kernel
theorem dX6_film_37 : decode cX6_film 37 = .ok (.invokevirtual 246, 3) := by decide +kernel
theorem dX6_film_40 : decode cX6_film 40 = .ok (.iconst 0, 1) := by decide +kernel
theorem dX6_film_41 : decode cX6_film 41 = .ok (.istore 4, 2) := by decide +kernel
theorem dX6_film_43 : decode cX6_film 43 = .ok (.iload 4, 2) := by decide +kernel
theorem dX6_film_45 : decode cX6_film 45 = .ok (.iload_n 3, 1) := by decide +kernel
theorem dX6_film_46 : decode cX6_film 46 = .ok (.if_icmp .ge 35, 3) := by decide +kernel
theorem dX6_film_49 : decode cX6_film 49 = .ok (.iload 4, 2) := by decide +kernel
theorem dX6_film_51 : decode cX6_film 51 = .ok (.ifCond .le 7, 3) := by decide +kernel
theorem dX6_film_54 : decode cX6_film 54 = .ok (.aload_n 0, 1) := by decide +kernel
theorem dX6_film_55 : decode cX6_film 55 = .ok (.invokevirtual 230, 3) := by decide +kernel
theorem dX6_film_58 : decode cX6_film 58 = .ok (.aload_n 0, 1) := by decide +kernel
theorem dX6_film_59 : decode cX6_film 59 = .ok (.getfield 74, 3) := by decide +kernel
theorem dX6_film_62 : decode cX6_film 62 = .ok (.bipush 40, 2) := by decide +kernel
theorem dX6_film_64 : decode cX6_film 64 = .ok (.iload_n 1, 1) := by decide +kernel
theorem dX6_film_65 : decode cX6_film 65 = .ok (.imul, 1) := by decide +kernel
theorem dX6_film_66 : decode cX6_film 66 = .ok (.iload 4, 2) := by decide +kernel
theorem dX6_film_68 : decode cX6_film 68 = .ok (.iadd, 1) := by decide +kernel
theorem dX6_film_69 : decode cX6_film 69 = .ok (.aload_n 0, 1) := by decide +kernel
theorem dX6_film_70 : decode cX6_film 70 = .ok (.iload_n 2, 1) := by decide +kernel
theorem dX6_film_71 : decode cX6_film 71 = .ok (.invokevirtual 120, 3) := by decide +kernel
theorem dX6_film_74 : decode cX6_film 74 = .ok (.iastore, 1) := by decide +kernel
theorem dX6_film_75 : decode cX6_film 75 = .ok (.iinc 4 1, 3) := by decide +kernel
theorem dX6_film_78 : decode cX6_film 78 = .ok (.goto (-35), 3) := by decide +kernel
theorem dX6_film_81 : decode cX6_film 81 = .ok (.aload_n 0, 1) := by decide +kernel
theorem dX6_film_82 : decode cX6_film 82 = .ok (.invokevirtual 249, 3) := by decide +kernel
theorem dX6_film_85 : decode cX6_film 85 = .ok (.iload_n 3, 1) := by decide +kernel
theorem dX6_film_86 : decode cX6_film 86 = .ok (.ireturn, 1) := by decide +kernel
theorem dX6_byLot_0 : decode cX6_byLot 0 = .ok (.iload_n 1, 1) := by decide +kernel
theorem dX6_byLot_1 : decode cX6_byLot 1 = .ok (.istore_n 3, 1) := by decide +kernel
theorem dX6_byLot_2 : decode cX6_byLot 2 = .ok (.iconst 0, 1) := by decide +kernel
theorem dX6_byLot_3 : decode cX6_byLot 3 = .ok (.istore 4, 2) := by decide +kernel
theorem dX6_byLot_5 : decode cX6_byLot 5 = .ok (.aload_n 0, 1) := by decide +kernel
theorem dX6_byLot_6 : decode cX6_byLot 6 = .ok (.invokevirtual 246, 3) := by decide +kernel
theorem dX6_byLot_9 : decode cX6_byLot 9 = .ok (.iconst 0, 1) := by decide +kernel
theorem dX6_byLot_10 : decode cX6_byLot 10 = .ok (.istore 5, 2) := by decide +kernel
theorem dX6_byLot_12 : decode cX6_byLot 12 = .ok (.iload 5, 2) := by decide +kernel
theorem dX6_byLot_14 : decode cX6_byLot 14 = .ok (.iload_n 2, 1) := by decide +kernel
theorem dX6_byLot_15 : decode cX6_byLot 15 = .ok (.if_icmp .ge 64, 3) := by decide +kernel
theorem dX6_byLot_18 : decode cX6_byLot 18 = .ok (.iload_n 3, 1) := by decide +kernel
theorem dX6_byLot_19 : decode cX6_byLot 19 = .ok (.ldc_w 349, 3) := by decide +kernel
theorem dX6_byLot_22 : decode cX6_byLot 22 = .ok (.imul, 1) := by decide +kernel
theorem dX6_byLot_23 : decode cX6_byLot 23 = .ok (.sipush 12345, 3) := by decide +kernel
theorem dX6_byLot_26 : decode cX6_byLot 26 = .ok (.iadd, 1) := by decide +kernel
theorem dX6_byLot_27 : decode cX6_byLot 27 = .ok (.istore_n 3, 1) := by decide +kernel
theorem dX6_byLot_28 : decode cX6_byLot 28 = .ok (.aload_n 0, 1) := by decide +kernel
theorem dX6_byLot_29 : decode cX6_byLot 29 = .ok (.iload_n 3, 1) := by decide +kernel
theorem dX6_byLot_30 : decode cX6_byLot 30 = .ok (.bipush 9, 2) := by decide +kernel
theorem dX6_byLot_32 : decode cX6_byLot 32 = .ok (.iushr, 1) := by decide +kernel
theorem dX6_byLot_33 : decode cX6_byLot 33 = .ok (.bipush 10, 2) := by decide +kernel
theorem dX6_byLot_35 : decode cX6_byLot 35 = .ok (.irem, 1) := by decide +kernel
theorem dX6_byLot_36 : decode cX6_byLot 36 = .ok (.putfield 99, 3) := by decide +kernel
theorem dX6_byLot_39 : decode cX6_byLot 39 = .ok (.aload_n 0, 1) := by decide +kernel
theorem dX6_byLot_40 : decode cX6_byLot 40 = .ok (.invokevirtual 230, 3) := by decide +kernel
theorem dX6_byLot_43 : decode cX6_byLot 43 = .ok (.iconst 0, 1) := by decide +kernel
theorem dX6_byLot_44 : decode cX6_byLot 44 = .ok (.istore 6, 2) := by decide +kernel
theorem dX6_byLot_46 : decode cX6_byLot 46 = .ok (.iload 6, 2) := by decide +kernel
theorem dX6_byLot_48 : decode cX6_byLot 48 = .ok (.aload_n 0, 1) := by decide +kernel
theorem dX6_byLot_49 : decode cX6_byLot 49 = .ok (.getfield 85, 3) := by decide +kernel
theorem dX6_byLot_52 : decode cX6_byLot 52 = .ok (.if_icmp .ge 21, 3) := by decide +kernel
theorem dX6_byLot_55 : decode cX6_byLot 55 = .ok (.aload_n 0, 1) := by decide +kernel
theorem dX6_byLot_56 : decode cX6_byLot 56 = .ok (.iload 6, 2) := by decide +kernel
theorem dX6_byLot_58 : decode cX6_byLot 58 = .ok (.invokevirtual 114, 3) := by decide +kernel
theorem dX6_byLot_61 : decode cX6_byLot 61 = .ok (.ifCond .eq 6, 3) := by decide +kernel
theorem dX6_byLot_64 : decode cX6_byLot 64 = .ok (.iinc 4 1, 3) := by decide +kernel
theorem dX6_byLot_67 : decode cX6_byLot 67 = .ok (.iinc 6 1, 3) := by decide +kernel
theorem dX6_byLot_70 : decode cX6_byLot 70 = .ok (.goto (-24), 3) := by decide +kernel
theorem dX6_byLot_73 : decode cX6_byLot 73 = .ok (.iinc 5 1, 3) := by decide +kernel
theorem dX6_byLot_76 : decode cX6_byLot 76 = .ok (.goto (-64), 3) := by decide +kernel
theorem dX6_byLot_79 : decode cX6_byLot 79 = .ok (.aload_n 0, 1) := by decide +kernel
theorem dX6_byLot_80 : decode cX6_byLot 80 = .ok (.invokevirtual 249, 3) := by decide +kernel
theorem dX6_byLot_83 : decode cX6_byLot 83 = .ok (.iload 4, 2) := by decide +kernel
theorem dX6_byLot_85 : decode cX6_byLot 85 = .ok (.ireturn, 1) := by decide +kernel
theorem dX6_drawn_0 : decode cX6_drawn 0 = .ok (.iload_n 2, 1) := by decide +kernel
theorem dX6_drawn_1 : decode cX6_drawn 1 = .ok (.iconst 0, 1) := by decide +kernel
theorem dX6_drawn_2 : decode cX6_drawn 2 = .ok (.bipush 40, 2) := by decide +kernel
theorem dX6_drawn_4 : decode cX6_drawn 4 = .ok (.invokestatic 88, 3) := by decide +kernel
theorem dX6_drawn_7 : decode cX6_drawn 7 = .ok (.ifCond .eq 12, 3) := by decide +kernel
theorem dX6_drawn_10 : decode cX6_drawn 10 = .ok (.aload_n 0, 1) := by decide +kernel
theorem dX6_drawn_11 : decode cX6_drawn 11 = .ok (.iload_n 1, 1) := by decide +kernel
theorem dX6_drawn_12 : decode cX6_drawn 12 = .ok (.iload_n 2, 1) := by decide +kernel
theorem dX6_drawn_13 : decode cX6_drawn 13 = .ok (.invokevirtual 350, 3) := by decide +kernel
theorem dX6_drawn_16 : decode cX6_drawn 16 = .ok (.goto 5, 3) := by decide +kernel
theorem dX6_drawn_19 : decode cX6_drawn 19 = .ok (.bipush (-2), 2) := by decide +kernel
theorem dX6_drawn_21 : decode cX6_drawn 21 = .ok (.ireturn, 1) := by decide +kernel
theorem dX6_chance_0 : decode cX6_chance 0 = .ok (.iload_n 2, 1) := by decide +kernel
theorem dX6_chance_1 : decode cX6_chance 1 = .ok (.iconst 1, 1) := by decide +kernel
theorem dX6_chance_2 : decode cX6_chance 2 = .ok (.bipush 20, 2) := by decide +kernel
theorem dX6_chance_4 : decode cX6_chance 4 = .ok (.invokestatic 88, 3) := by decide +kernel
theorem dX6_chance_7 : decode cX6_chance 7 = .ok (.ifCond .eq 23, 3) := by decide +kernel
theorem dX6_chance_10 : decode cX6_chance 10 = .ok (.iload_n 3, 1) := by decide +kernel
theorem dX6_chance_11 : decode cX6_chance 11 = .ok (.iconst 0, 1) := by decide +kernel
theorem dX6_chance_12 : decode cX6_chance 12 = .ok (.bipush 99, 2) := by decide +kernel
theorem dX6_chance_14 : decode cX6_chance 14 = .ok (.invokestatic 88, 3) := by decide +kernel
theorem dX6_chance_17 : decode cX6_chance 17 = .ok (.ifCond .eq 13, 3) := by decide +kernel
theorem dX6_chance_20 : decode cX6_chance 20 = .ok (.iload 4, 2) := by decide +kernel
theorem dX6_chance_22 : decode cX6_chance 22 = .ok (.iconst 0, 1) := by decide +kernel
theorem dX6_chance_23 : decode cX6_chance 23 = .ok (.iconst 1, 1) := by decide +kernel
theorem dX6_chance_24 : decode cX6_chance 24 = .ok (.invokestatic 88, 3) := by decide +kernel
theorem dX6_chance_27 : decode cX6_chance 27 = .ok (.ifCond .ne 7, 3) := by decide +kernel
theorem dX6_chance_30 : decode cX6_chance 30 = .ok (.ldc2_w 279, 3) := by decide +kernel
theorem dX6_chance_33 : decode cX6_chance 33 = .ok (.lreturn, 1) := by decide +kernel
theorem dX6_chance_34 : decode cX6_chance 34 = .ok (.iconst 0, 1) := by decide +kernel
theorem dX6_chance_35 : decode cX6_chance 35 = .ok (.istore 5, 2) := by decide +kernel
theorem dX6_chance_37 : decode cX6_chance 37 = .ok (.iconst 0, 1) := by decide +kernel
theorem dX6_chance_38 : decode cX6_chance 38 = .ok (.istore 6, 2) := by decide +kernel
theorem dX6_chance_40 : decode cX6_chance 40 = .ok (.iload 6, 2) := by decide +kernel
theorem dX6_chance_42 : decode cX6_chance 42 = .ok (.iload_n 2, 1) := by decide +kernel
theorem dX6_chance_43 : decode cX6_chance 43 = .ok (.if_icmp .ge 26, 3) := by decide +kernel
theorem dX6_chance_46 : decode cX6_chance 46 = .ok (.aload_n 0, 1) := by decide +kernel
theorem dX6_chance_47 : decode cX6_chance 47 = .ok (.iload_n 1, 1) := by decide +kernel
theorem dX6_chance_48 : decode cX6_chance 48 = .ok (.iload 6, 2) := by decide +kernel
theorem dX6_chance_50 : decode cX6_chance 50 = .ok (.iadd, 1) := by decide +kernel
theorem dX6_chance_51 : decode cX6_chance 51 = .ok (.bipush 10, 2) := by decide +kernel
theorem dX6_chance_53 : decode cX6_chance 53 = .ok (.invokevirtual 350, 3) := by decide +kernel
theorem dX6_chance_56 : decode cX6_chance 56 = .ok (.iload_n 3, 1) := by decide +kernel
theorem dX6_chance_57 : decode cX6_chance 57 = .ok (.if_icmp .lt 6, 3) := by decide +kernel
theorem dX6_chance_60 : decode cX6_chance 60 = .ok (.iinc 5 1, 3) := by decide +kernel
theorem dX6_chance_63 : decode cX6_chance 63 = .ok (.iinc 6 1, 3) := by decide +kernel
theorem dX6_chance_66 : decode cX6_chance 66 = .ok (.goto (-26), 3) := by decide +kernel
theorem dX6_chance_69 : decode cX6_chance 69 = .ok (.iload 5, 2) := by decide +kernel
theorem dX6_chance_71 : decode cX6_chance 71 = .ok (.istore 6, 2) := by decide +kernel
theorem dX6_chance_73 : decode cX6_chance 73 = .ok (.iload_n 2, 1) := by decide +kernel
theorem dX6_chance_74 : decode cX6_chance 74 = .ok (.istore 7, 2) := by decide +kernel
theorem dX6_chance_76 : decode cX6_chance 76 = .ok (.iload 7, 2) := by decide +kernel
theorem dX6_chance_78 : decode cX6_chance 78 = .ok (.ifCond .eq 21, 3) := by decide +kernel
theorem dX6_chance_81 : decode cX6_chance 81 = .ok (.iload 6, 2) := by decide +kernel
theorem dX6_chance_83 : decode cX6_chance 83 = .ok (.iload 7, 2) := by decide +kernel
theorem dX6_chance_85 : decode cX6_chance 85 = .ok (.irem, 1) := by decide +kernel
theorem dX6_chance_86 : decode cX6_chance 86 = .ok (.istore 8, 2) := by decide +kernel
theorem dX6_chance_88 : decode cX6_chance 88 = .ok (.iload 7, 2) := by decide +kernel
theorem dX6_chance_90 : decode cX6_chance 90 = .ok (.istore 6, 2) := by decide +kernel
theorem dX6_chance_92 : decode cX6_chance 92 = .ok (.iload 8, 2) := by decide +kernel
theorem dX6_chance_94 : decode cX6_chance 94 = .ok (.istore 7, 2) := by decide +kernel
theorem dX6_chance_96 : decode cX6_chance 96 = .ok (.goto (-20), 3) := by decide +kernel
theorem dX6_chance_99 : decode cX6_chance 99 = .ok (.iload 4, 2) := by decide +kernel
theorem dX6_chance_101 : decode cX6_chance 101 = .ok (.ifCond .ne 12, 3) := by decide +kernel
theorem dX6_chance_104 : decode cX6_chance 104 = .ok (.iload 5, 2) := by decide +kernel
theorem dX6_chance_106 : decode cX6_chance 106 = .ok (.iload 6, 2) := by decide +kernel
theorem dX6_chance_108 : decode cX6_chance 108 = .ok (.idiv, 1) := by decide +kernel
theorem dX6_chance_109 : decode cX6_chance 109 = .ok (.i2l, 1) := by decide +kernel
theorem dX6_chance_110 : decode cX6_chance 110 = .ok (.goto 8, 3) := by decide +kernel
theorem dX6_chance_113 : decode cX6_chance 113 = .ok (.iload_n 2, 1) := by decide +kernel
theorem dX6_chance_114 : decode cX6_chance 114 = .ok (.iload 6, 2) := by decide +kernel
theorem dX6_chance_116 : decode cX6_chance 116 = .ok (.idiv, 1) := by decide +kernel
theorem dX6_chance_117 : decode cX6_chance 117 = .ok (.i2l, 1) := by decide +kernel
theorem dX6_chance_118 : decode cX6_chance 118 = .ok (.lreturn, 1) := by decide +kernel
theorem dX6_image_0 : decode cX6_image 0 = .ok (.aload_n 0, 1) := by decide +kernel
theorem dX6_image_1 : decode cX6_image 1 = .ok (.iconst 1, 1) := by decide +kernel
theorem dX6_image_2 : decode cX6_image 2 = .ok (.putfield 353, 3) := by decide +kernel
theorem dX6_image_5 : decode cX6_image 5 = .ok (.aload_n 0, 1) := by decide +kernel
theorem dX6_image_6 : decode cX6_image 6 = .ok (.aload_n 0, 1) := by decide +kernel
theorem dX6_image_7 : decode cX6_image 7 = .ok (.getfield 85, 3) := by decide +kernel
theorem dX6_image_10 : decode cX6_image 10 = .ok (.putfield 356, 3) := by decide +kernel
theorem dX6_image_13 : decode cX6_image 13 = .ok (.aload_n 0, 1) := by decide +kernel
theorem dX6_image_14 : decode cX6_image 14 = .ok (.aload_n 0, 1) := by decide +kernel
theorem dX6_image_15 : decode cX6_image 15 = .ok (.getfield 96, 3) := by decide +kernel
theorem dX6_image_18 : decode cX6_image 18 = .ok (.putfield 359, 3) := by decide +kernel
theorem dX6_image_21 : decode cX6_image 21 = .ok (.aload_n 0, 1) := by decide +kernel
theorem dX6_image_22 : decode cX6_image 22 = .ok (.aload_n 0, 1) := by decide +kernel
theorem dX6_image_23 : decode cX6_image 23 = .ok (.getfield 99, 3) := by decide +kernel
theorem dX6_image_26 : decode cX6_image 26 = .ok (.putfield 362, 3) := by decide +kernel
theorem dX6_image_29 : decode cX6_image 29 = .ok (.aload_n 0, 1) := by decide +kernel
theorem dX6_image_30 : decode cX6_image 30 = .ok (.aload_n 0, 1) := by decide +kernel
theorem dX6_image_31 : decode cX6_image 31 = .ok (.getfield 211, 3) := by decide +kernel
theorem dX6_image_34 : decode cX6_image 34 = .ok (.putfield 365, 3) := by decide +kernel
theorem dX6_image_37 : decode cX6_image 37 = .ok (.iconst 0, 1) := by decide +kernel
theorem dX6_image_38 : decode cX6_image 38 = .ok (.istore_n 1, 1) := by decide +kernel
theorem dX6_image_39 : decode cX6_image 39 = .ok (.iload_n 1, 1) := by decide +kernel
theorem dX6_image_40 : decode cX6_image 40 = .ok (.iconst 5, 1) := by decide +kernel
theorem dX6_image_41 : decode cX6_image 41 = .ok (.if_icmp .ge 45, 3) := by decide +kernel
theorem dX6_image_44 : decode cX6_image 44 = .ok (.aload_n 0, 1) := by decide +kernel
theorem dX6_image_45 : decode cX6_image 45 = .ok (.getfield 59, 3) := by decide +kernel
theorem dX6_image_48 : decode cX6_image 48 = .ok (.iload_n 1, 1) := by decide +kernel
theorem dX6_image_49 : decode cX6_image 49 = .ok (.aload_n 0, 1) := by decide +kernel
theorem dX6_image_50 : decode cX6_image 50 = .ok (.getfield 13, 3) := by decide +kernel
theorem dX6_image_53 : decode cX6_image 53 = .ok (.iload_n 1, 1) := by decide +kernel
theorem dX6_image_54 : decode cX6_image 54 = .ok (.iaload, 1) := by decide +kernel
theorem dX6_image_55 : decode cX6_image 55 = .ok (.iastore, 1) := by decide +kernel
theorem dX6_image_56 : decode cX6_image 56 = .ok (.aload_n 0, 1) := by decide +kernel
theorem dX6_image_57 : decode cX6_image 57 = .ok (.getfield 62, 3) := by decide +kernel
theorem dX6_image_60 : decode cX6_image 60 = .ok (.iload_n 1, 1) := by decide +kernel
theorem dX6_image_61 : decode cX6_image 61 = .ok (.aload_n 0, 1) := by decide +kernel
theorem dX6_image_62 : decode cX6_image 62 = .ok (.getfield 16, 3) := by decide +kernel
theorem dX6_image_65 : decode cX6_image 65 = .ok (.iload_n 1, 1) := by decide +kernel
theorem dX6_image_66 : decode cX6_image 66 = .ok (.iaload, 1) := by decide +kernel
theorem dX6_image_67 : decode cX6_image 67 = .ok (.iastore, 1) := by decide +kernel
theorem dX6_image_68 : decode cX6_image 68 = .ok (.aload_n 0, 1) := by decide +kernel
theorem dX6_image_69 : decode cX6_image 69 = .ok (.getfield 65, 3) := by decide +kernel
theorem dX6_image_72 : decode cX6_image 72 = .ok (.iload_n 1, 1) := by decide +kernel
theorem dX6_image_73 : decode cX6_image 73 = .ok (.aload_n 0, 1) := by decide +kernel
theorem dX6_image_74 : decode cX6_image 74 = .ok (.getfield 19, 3) := by decide +kernel
theorem dX6_image_77 : decode cX6_image 77 = .ok (.iload_n 1, 1) := by decide +kernel
theorem dX6_image_78 : decode cX6_image 78 = .ok (.iaload, 1) := by decide +kernel
theorem dX6_image_79 : decode cX6_image 79 = .ok (.iastore, 1) := by decide +kernel
theorem dX6_image_80 : decode cX6_image 80 = .ok (.iinc 1 1, 3) := by decide +kernel
theorem dX6_image_83 : decode cX6_image 83 = .ok (.goto (-44), 3) := by decide +kernel
theorem dX6_image_86 : decode cX6_image 86 = .ok (.aload_n 0, 1) := by decide +kernel
theorem dX6_image_87 : decode cX6_image 87 = .ok (.getfield 85, 3) := by decide +kernel
theorem dX6_image_90 : decode cX6_image 90 = .ok (.ireturn, 1) := by decide +kernel
theorem dX6_back_0 : decode cX6_back 0 = .ok (.aload_n 0, 1) := by decide +kernel
theorem dX6_back_1 : decode cX6_back 1 = .ok (.getfield 353, 3) := by decide +kernel
theorem dX6_back_4 : decode cX6_back 4 = .ok (.ifCond .ne 6, 3) := by decide +kernel
theorem dX6_back_7 : decode cX6_back 7 = .ok (.bipush (-3), 2) := by decide +kernel
theorem dX6_back_9 : decode cX6_back 9 = .ok (.ireturn, 1) := by decide +kernel
theorem dX6_back_10 : decode cX6_back 10 = .ok (.aload_n 0, 1) := by decide +kernel
theorem dX6_back_11 : decode cX6_back 11 = .ok (.aload_n 0, 1) := by decide +kernel
theorem dX6_back_12 : decode cX6_back 12 = .ok (.getfield 356, 3) := by decide +kernel
theorem dX6_back_15 : decode cX6_back 15 = .ok (.putfield 85, 3) := by decide +kernel
theorem dX6_back_18 : decode cX6_back 18 = .ok (.aload_n 0, 1) := by decide +kernel
theorem dX6_back_19 : decode cX6_back 19 = .ok (.aload_n 0, 1) := by decide +kernel
theorem dX6_back_20 : decode cX6_back 20 = .ok (.getfield 359, 3) := by decide +kernel
theorem dX6_back_23 : decode cX6_back 23 = .ok (.putfield 96, 3) := by decide +kernel
theorem dX6_back_26 : decode cX6_back 26 = .ok (.aload_n 0, 1) := by decide +kernel
theorem dX6_back_27 : decode cX6_back 27 = .ok (.aload_n 0, 1) := by decide +kernel
theorem dX6_back_28 : decode cX6_back 28 = .ok (.getfield 362, 3) := by decide +kernel
theorem dX6_back_31 : decode cX6_back 31 = .ok (.putfield 99, 3) := by decide +kernel
theorem dX6_back_34 : decode cX6_back 34 = .ok (.aload_n 0, 1) := by decide +kernel
theorem dX6_back_35 : decode cX6_back 35 = .ok (.aload_n 0, 1) := by decide +kernel
theorem dX6_back_36 : decode cX6_back 36 = .ok (.getfield 365, 3) := by decide +kernel
theorem dX6_back_39 : decode cX6_back 39 = .ok (.putfield 211, 3) := by decide +kernel
theorem dX6_back_42 : decode cX6_back 42 = .ok (.iconst 0, 1) := by decide +kernel
theorem dX6_back_43 : decode cX6_back 43 = .ok (.istore_n 1, 1) := by decide +kernel
theorem dX6_back_44 : decode cX6_back 44 = .ok (.iload_n 1, 1) := by decide +kernel
theorem dX6_back_45 : decode cX6_back 45 = .ok (.iconst 5, 1) := by decide +kernel
theorem dX6_back_46 : decode cX6_back 46 = .ok (.if_icmp .ge 45, 3) := by decide +kernel
theorem dX6_back_49 : decode cX6_back 49 = .ok (.aload_n 0, 1) := by decide +kernel
theorem dX6_back_50 : decode cX6_back 50 = .ok (.getfield 13, 3) := by decide +kernel
theorem dX6_back_53 : decode cX6_back 53 = .ok (.iload_n 1, 1) := by decide +kernel
theorem dX6_back_54 : decode cX6_back 54 = .ok (.aload_n 0, 1) := by decide +kernel
theorem dX6_back_55 : decode cX6_back 55 = .ok (.getfield 59, 3) := by decide +kernel
theorem dX6_back_58 : decode cX6_back 58 = .ok (.iload_n 1, 1) := by decide +kernel
theorem dX6_back_59 : decode cX6_back 59 = .ok (.iaload, 1) := by decide +kernel
theorem dX6_back_60 : decode cX6_back 60 = .ok (.iastore, 1) := by decide +kernel
theorem dX6_back_61 : decode cX6_back 61 = .ok (.aload_n 0, 1) := by decide +kernel
theorem dX6_back_62 : decode cX6_back 62 = .ok (.getfield 16, 3) := by decide +kernel
theorem dX6_back_65 : decode cX6_back 65 = .ok (.iload_n 1, 1) := by decide +kernel
theorem dX6_back_66 : decode cX6_back 66 = .ok (.aload_n 0, 1) := by decide +kernel
theorem dX6_back_67 : decode cX6_back 67 = .ok (.getfield 62, 3) := by decide +kernel
theorem dX6_back_70 : decode cX6_back 70 = .ok (.iload_n 1, 1) := by decide +kernel
theorem dX6_back_71 : decode cX6_back 71 = .ok (.iaload, 1) := by decide +kernel
theorem dX6_back_72 : decode cX6_back 72 = .ok (.iastore, 1) := by decide +kernel
theorem dX6_back_73 : decode cX6_back 73 = .ok (.aload_n 0, 1) := by decide +kernel
theorem dX6_back_74 : decode cX6_back 74 = .ok (.getfield 19, 3) := by decide +kernel
theorem dX6_back_77 : decode cX6_back 77 = .ok (.iload_n 1, 1) := by decide +kernel
theorem dX6_back_78 : decode cX6_back 78 = .ok (.aload_n 0, 1) := by decide +kernel
theorem dX6_back_79 : decode cX6_back 79 = .ok (.getfield 65, 3) := by decide +kernel
theorem dX6_back_82 : decode cX6_back 82 = .ok (.iload_n 1, 1) := by decide +kernel
theorem dX6_back_83 : decode cX6_back 83 = .ok (.iaload, 1) := by decide +kernel
theorem dX6_back_84 : decode cX6_back 84 = .ok (.iastore, 1) := by decide +kernel
theorem dX6_back_85 : decode cX6_back 85 = .ok (.iinc 1 1, 3) := by decide +kernel
theorem dX6_back_88 : decode cX6_back 88 = .ok (.goto (-44), 3) := by decide +kernel
theorem dX6_back_91 : decode cX6_back 91 = .ok (.aload_n 0, 1) := by decide +kernel
theorem dX6_back_92 : decode cX6_back 92 = .ok (.getfield 85, 3) := by decide +kernel
theorem dX6_back_95 : decode cX6_back 95 = .ok (.ireturn, 1) := by decide +kernel
theorem dX6_count_0 : decode cX6_count 0 = .ok (.iload_n 1, 1) := by decide +kernel
theorem dX6_count_1 : decode cX6_count 1 = .ok (.tableswitch 69 0 5 #[39, 44, 49, 54, 59, 64], 39) := by decide +kernel
theorem dX6_count_40 : decode cX6_count 40 = .ok (.aload_n 0, 1) := by decide +kernel
theorem dX6_count_41 : decode cX6_count 41 = .ok (.getfield 85, 3) := by decide +kernel
theorem dX6_count_44 : decode cX6_count 44 = .ok (.ireturn, 1) := by decide +kernel
theorem dX6_count_45 : decode cX6_count 45 = .ok (.aload_n 0, 1) := by decide +kernel
theorem dX6_count_46 : decode cX6_count 46 = .ok (.getfield 96, 3) := by decide +kernel
theorem dX6_count_49 : decode cX6_count 49 = .ok (.ireturn, 1) := by decide +kernel
theorem dX6_count_50 : decode cX6_count 50 = .ok (.aload_n 0, 1) := by decide +kernel
theorem dX6_count_51 : decode cX6_count 51 = .ok (.invokevirtual 233, 3) := by decide +kernel
theorem dX6_count_54 : decode cX6_count 54 = .ok (.ireturn, 1) := by decide +kernel
theorem dX6_count_55 : decode cX6_count 55 = .ok (.aload_n 0, 1) := by decide +kernel
theorem dX6_count_56 : decode cX6_count 56 = .ok (.getfield 81, 3) := by decide +kernel
theorem dX6_count_59 : decode cX6_count 59 = .ok (.ireturn, 1) := by decide +kernel
theorem dX6_count_60 : decode cX6_count 60 = .ok (.aload_n 0, 1) := by decide +kernel
theorem dX6_count_61 : decode cX6_count 61 = .ok (.getfield 123, 3) := by decide +kernel
theorem dX6_count_64 : decode cX6_count 64 = .ok (.ireturn, 1) := by decide +kernel
theorem dX6_count_65 : decode cX6_count 65 = .ok (.aload_n 0, 1) := by decide +kernel
theorem dX6_count_66 : decode cX6_count 66 = .ok (.getfield 211, 3) := by decide +kernel
theorem dX6_count_69 : decode cX6_count 69 = .ok (.ireturn, 1) := by decide +kernel
theorem dX6_count_70 : decode cX6_count 70 = .ok (.bipush (-2), 2) := by decide +kernel
theorem dX6_count_72 : decode cX6_count 72 = .ok (.ireturn, 1) := by decide +kernel
theorem dX6_sheet_0 : decode cX6_sheet 0 = .ok (.iload_n 1, 1) := by decide +kernel
theorem dX6_sheet_1 : decode cX6_sheet 1 = .ok (.invokestatic 325, 3) := by decide +kernel
theorem dX6_sheet_4 : decode cX6_sheet 4 = .ok (.ifCond .eq 12, 3) := by decide +kernel
theorem dX6_sheet_7 : decode cX6_sheet 7 = .ok (.iload_n 2, 1) := by decide +kernel
theorem dX6_sheet_8 : decode cX6_sheet 8 = .ok (.iconst (-1), 1) := by decide +kernel
theorem dX6_sheet_9 : decode cX6_sheet 9 = .ok (.iconst 2, 1) := by decide +kernel
theorem dX6_sheet_10 : decode cX6_sheet 10 = .ok (.invokestatic 88, 3) := by decide +kernel
theorem dX6_sheet_13 : decode cX6_sheet 13 = .ok (.ifCond .ne 6, 3) := by decide +kernel
theorem dX6_sheet_16 : decode cX6_sheet 16 = .ok (.bipush (-2), 2) := by decide +kernel
theorem dX6_sheet_18 : decode cX6_sheet 18 = .ok (.ireturn, 1) := by decide +kernel
theorem dX6_sheet_19 : decode cX6_sheet 19 = .ok (.iload_n 2, 1) := by decide +kernel
theorem dX6_sheet_20 : decode cX6_sheet 20 = .ok (.ifCond .lt 10, 3) := by decide +kernel
theorem dX6_sheet_23 : decode cX6_sheet 23 = .ok (.iload_n 3, 1) := by decide +kernel
theorem dX6_sheet_24 : decode cX6_sheet 24 = .ok (.ifCond .ge 6, 3) := by decide +kernel
theorem dX6_sheet_27 : decode cX6_sheet 27 = .ok (.bipush (-14), 2) := by decide +kernel
theorem dX6_sheet_29 : decode cX6_sheet 29 = .ok (.ireturn, 1) := by decide +kernel
theorem dX6_sheet_30 : decode cX6_sheet 30 = .ok (.iload_n 2, 1) := by decide +kernel
theorem dX6_sheet_31 : decode cX6_sheet 31 = .ok (.ifCond .lt 12, 3) := by decide +kernel
theorem dX6_sheet_34 : decode cX6_sheet 34 = .ok (.iload_n 3, 1) := by decide +kernel
theorem dX6_sheet_35 : decode cX6_sheet 35 = .ok (.bipush 40, 2) := by decide +kernel
theorem dX6_sheet_37 : decode cX6_sheet 37 = .ok (.if_icmp .le 6, 3) := by decide +kernel
theorem dX6_sheet_40 : decode cX6_sheet 40 = .ok (.bipush (-2), 2) := by decide +kernel
theorem dX6_sheet_42 : decode cX6_sheet 42 = .ok (.ireturn, 1) := by decide +kernel
theorem dX6_sheet_43 : decode cX6_sheet 43 = .ok (.aload_n 0, 1) := by decide +kernel
theorem dX6_sheet_44 : decode cX6_sheet 44 = .ok (.getfield 68, 3) := by decide +kernel
theorem dX6_sheet_47 : decode cX6_sheet 47 = .ok (.iload_n 1, 1) := by decide +kernel
theorem dX6_sheet_48 : decode cX6_sheet 48 = .ok (.iload_n 2, 1) := by decide +kernel
theorem dX6_sheet_49 : decode cX6_sheet 49 = .ok (.iastore, 1) := by decide +kernel
theorem dX6_sheet_50 : decode cX6_sheet 50 = .ok (.aload_n 0, 1) := by decide +kernel
theorem dX6_sheet_51 : decode cX6_sheet 51 = .ok (.getfield 71, 3) := by decide +kernel
theorem dX6_sheet_54 : decode cX6_sheet 54 = .ok (.iload_n 1, 1) := by decide +kernel
theorem dX6_sheet_55 : decode cX6_sheet 55 = .ok (.iload_n 2, 1) := by decide +kernel
theorem dX6_sheet_56 : decode cX6_sheet 56 = .ok (.ifCond .ge 7, 3) := by decide +kernel
theorem dX6_sheet_59 : decode cX6_sheet 59 = .ok (.iconst 0, 1) := by decide +kernel
theorem dX6_sheet_60 : decode cX6_sheet 60 = .ok (.goto 4, 3) := by decide +kernel
theorem dX6_sheet_63 : decode cX6_sheet 63 = .ok (.iload_n 3, 1) := by decide +kernel
theorem dX6_sheet_64 : decode cX6_sheet 64 = .ok (.iastore, 1) := by decide +kernel
theorem dX6_sheet_65 : decode cX6_sheet 65 = .ok (.iconst 0, 1) := by decide +kernel
theorem dX6_sheet_66 : decode cX6_sheet 66 = .ok (.istore 4, 2) := by decide +kernel
theorem dX6_sheet_68 : decode cX6_sheet 68 = .ok (.iload 4, 2) := by decide +kernel
theorem dX6_sheet_70 : decode cX6_sheet 70 = .ok (.bipush 40, 2) := by decide +kernel
theorem dX6_sheet_72 : decode cX6_sheet 72 = .ok (.if_icmp .ge 22, 3) := by decide +kernel
theorem dX6_sheet_75 : decode cX6_sheet 75 = .ok (.aload_n 0, 1) := by decide +kernel
theorem dX6_sheet_76 : decode cX6_sheet 76 = .ok (.getfield 74, 3) := by decide +kernel
theorem dX6_sheet_79 : decode cX6_sheet 79 = .ok (.bipush 40, 2) := by decide +kernel
theorem dX6_sheet_81 : decode cX6_sheet 81 = .ok (.iload_n 1, 1) := by decide +kernel
theorem dX6_sheet_82 : decode cX6_sheet 82 = .ok (.imul, 1) := by decide +kernel
theorem dX6_sheet_83 : decode cX6_sheet 83 = .ok (.iload 4, 2) := by decide +kernel
theorem dX6_sheet_85 : decode cX6_sheet 85 = .ok (.iadd, 1) := by decide +kernel
theorem dX6_sheet_86 : decode cX6_sheet 86 = .ok (.iconst 0, 1) := by decide +kernel
theorem dX6_sheet_87 : decode cX6_sheet 87 = .ok (.iastore, 1) := by decide +kernel
theorem dX6_sheet_88 : decode cX6_sheet 88 = .ok (.iinc 4 1, 3) := by decide +kernel
theorem dX6_sheet_91 : decode cX6_sheet 91 = .ok (.goto (-23), 3) := by decide +kernel
theorem dX6_sheet_94 : decode cX6_sheet 94 = .ok (.iconst 1, 1) := by decide +kernel
theorem dX6_sheet_95 : decode cX6_sheet 95 = .ok (.ireturn, 1) := by decide +kernel
theorem dX6_cell_0 : decode cX6_cell 0 = .ok (.iload_n 1, 1) := by decide +kernel
theorem dX6_cell_1 : decode cX6_cell 1 = .ok (.invokestatic 325, 3) := by decide +kernel
theorem dX6_cell_4 : decode cX6_cell 4 = .ok (.ifCond .ne 6, 3) := by decide +kernel
theorem dX6_cell_7 : decode cX6_cell 7 = .ok (.bipush (-2), 2) := by decide +kernel
theorem dX6_cell_9 : decode cX6_cell 9 = .ok (.ireturn, 1) := by decide +kernel
theorem dX6_cell_10 : decode cX6_cell 10 = .ok (.aload_n 0, 1) := by decide +kernel
theorem dX6_cell_11 : decode cX6_cell 11 = .ok (.getfield 68, 3) := by decide +kernel
theorem dX6_cell_14 : decode cX6_cell 14 = .ok (.iload_n 1, 1) := by decide +kernel
theorem dX6_cell_15 : decode cX6_cell 15 = .ok (.iaload, 1) := by decide +kernel
theorem dX6_cell_16 : decode cX6_cell 16 = .ok (.ifCond .ge 6, 3) := by decide +kernel
theorem dX6_cell_19 : decode cX6_cell 19 = .ok (.bipush (-11), 2) := by decide +kernel
theorem dX6_cell_21 : decode cX6_cell 21 = .ok (.ireturn, 1) := by decide +kernel
theorem dX6_cell_22 : decode cX6_cell 22 = .ok (.iload_n 2, 1) := by decide +kernel
theorem dX6_cell_23 : decode cX6_cell 23 = .ok (.iconst 0, 1) := by decide +kernel
theorem dX6_cell_24 : decode cX6_cell 24 = .ok (.aload_n 0, 1) := by decide +kernel
theorem dX6_cell_25 : decode cX6_cell 25 = .ok (.getfield 71, 3) := by decide +kernel
theorem dX6_cell_28 : decode cX6_cell 28 = .ok (.iload_n 1, 1) := by decide +kernel
theorem dX6_cell_29 : decode cX6_cell 29 = .ok (.iaload, 1) := by decide +kernel
theorem dX6_cell_30 : decode cX6_cell 30 = .ok (.iconst 1, 1) := by decide +kernel
theorem dX6_cell_31 : decode cX6_cell 31 = .ok (.isub, 1) := by decide +kernel
theorem dX6_cell_32 : decode cX6_cell 32 = .ok (.invokestatic 88, 3) := by decide +kernel
theorem dX6_cell_35 : decode cX6_cell 35 = .ok (.ifCond .ne 6, 3) := by decide +kernel
theorem dX6_cell_38 : decode cX6_cell 38 = .ok (.bipush (-12), 2) := by decide +kernel
theorem dX6_cell_40 : decode cX6_cell 40 = .ok (.ireturn, 1) := by decide +kernel
theorem dX6_cell_41 : decode cX6_cell 41 = .ok (.aload_n 0, 1) := by decide +kernel
theorem dX6_cell_42 : decode cX6_cell 42 = .ok (.getfield 74, 3) := by decide +kernel
theorem dX6_cell_45 : decode cX6_cell 45 = .ok (.bipush 40, 2) := by decide +kernel
theorem dX6_cell_47 : decode cX6_cell 47 = .ok (.iload_n 1, 1) := by decide +kernel
theorem dX6_cell_48 : decode cX6_cell 48 = .ok (.imul, 1) := by decide +kernel
theorem dX6_cell_49 : decode cX6_cell 49 = .ok (.iload_n 2, 1) := by decide +kernel
theorem dX6_cell_50 : decode cX6_cell 50 = .ok (.iadd, 1) := by decide +kernel
theorem dX6_cell_51 : decode cX6_cell 51 = .ok (.aload_n 0, 1) := by decide +kernel
theorem dX6_cell_52 : decode cX6_cell 52 = .ok (.getfield 68, 3) := by decide +kernel
theorem dX6_cell_55 : decode cX6_cell 55 = .ok (.iload_n 1, 1) := by decide +kernel
theorem dX6_cell_56 : decode cX6_cell 56 = .ok (.iaload, 1) := by decide +kernel
theorem dX6_cell_57 : decode cX6_cell 57 = .ok (.ifCond .ne 8, 3) := by decide +kernel
theorem dX6_cell_60 : decode cX6_cell 60 = .ok (.iload_n 3, 1) := by decide +kernel
theorem dX6_cell_61 : decode cX6_cell 61 = .ok (.i2b, 1) := by decide +kernel
theorem dX6_cell_62 : decode cX6_cell 62 = .ok (.goto 19, 3) := by decide +kernel
theorem dX6_cell_65 : decode cX6_cell 65 = .ok (.aload_n 0, 1) := by decide +kernel
theorem dX6_cell_66 : decode cX6_cell 66 = .ok (.getfield 68, 3) := by decide +kernel
theorem dX6_cell_69 : decode cX6_cell 69 = .ok (.iload_n 1, 1) := by decide +kernel
theorem dX6_cell_70 : decode cX6_cell 70 = .ok (.iaload, 1) := by decide +kernel
theorem dX6_cell_71 : decode cX6_cell 71 = .ok (.iconst 1, 1) := by decide +kernel
theorem dX6_cell_72 : decode cX6_cell 72 = .ok (.if_icmp .ne 8, 3) := by decide +kernel
theorem dX6_cell_75 : decode cX6_cell 75 = .ok (.iload_n 3, 1) := by decide +kernel
theorem dX6_cell_76 : decode cX6_cell 76 = .ok (.i2s, 1) := by decide +kernel
theorem dX6_cell_77 : decode cX6_cell 77 = .ok (.goto 4, 3) := by decide +kernel
theorem dX6_cell_80 : decode cX6_cell 80 = .ok (.iload_n 3, 1) := by decide +kernel
theorem dX6_cell_81 : decode cX6_cell 81 = .ok (.iastore, 1) := by decide +kernel
theorem dX6_cell_82 : decode cX6_cell 82 = .ok (.iconst 1, 1) := by decide +kernel
theorem dX6_cell_83 : decode cX6_cell 83 = .ok (.ireturn, 1) := by decide +kernel
theorem dX6_copy_0 : decode cX6_copy 0 = .ok (.iload_n 1, 1) := by decide +kernel
theorem dX6_copy_1 : decode cX6_copy 1 = .ok (.invokestatic 325, 3) := by decide +kernel
theorem dX6_copy_4 : decode cX6_copy 4 = .ok (.ifCond .eq 10, 3) := by decide +kernel
theorem dX6_copy_7 : decode cX6_copy 7 = .ok (.iload_n 3, 1) := by decide +kernel
theorem dX6_copy_8 : decode cX6_copy 8 = .ok (.invokestatic 325, 3) := by decide +kernel
theorem dX6_copy_11 : decode cX6_copy 11 = .ok (.ifCond .ne 6, 3) := by decide +kernel
theorem dX6_copy_14 : decode cX6_copy 14 = .ok (.bipush (-2), 2) := by decide +kernel
theorem dX6_copy_16 : decode cX6_copy 16 = .ok (.ireturn, 1) := by decide +kernel
theorem dX6_copy_17 : decode cX6_copy 17 = .ok (.aload_n 0, 1) := by decide +kernel
theorem dX6_copy_18 : decode cX6_copy 18 = .ok (.getfield 68, 3) := by decide +kernel
theorem dX6_copy_21 : decode cX6_copy 21 = .ok (.iload_n 1, 1) := by decide +kernel
theorem dX6_copy_22 : decode cX6_copy 22 = .ok (.iaload, 1) := by decide +kernel
theorem dX6_copy_23 : decode cX6_copy 23 = .ok (.ifCond .lt 12, 3) := by decide +kernel
theorem dX6_copy_26 : decode cX6_copy 26 = .ok (.aload_n 0, 1) := by decide +kernel
theorem dX6_copy_27 : decode cX6_copy 27 = .ok (.getfield 68, 3) := by decide +kernel
theorem dX6_copy_30 : decode cX6_copy 30 = .ok (.iload_n 3, 1) := by decide +kernel
theorem dX6_copy_31 : decode cX6_copy 31 = .ok (.iaload, 1) := by decide +kernel
theorem dX6_copy_32 : decode cX6_copy 32 = .ok (.ifCond .ge 6, 3) := by decide +kernel
theorem dX6_copy_35 : decode cX6_copy 35 = .ok (.bipush (-11), 2) := by decide +kernel
theorem dX6_copy_37 : decode cX6_copy 37 = .ok (.ireturn, 1) := by decide +kernel
theorem dX6_copy_38 : decode cX6_copy 38 = .ok (.aload_n 0, 1) := by decide +kernel
theorem dX6_copy_39 : decode cX6_copy 39 = .ok (.getfield 68, 3) := by decide +kernel
theorem dX6_copy_42 : decode cX6_copy 42 = .ok (.iload_n 1, 1) := by decide +kernel
theorem dX6_copy_43 : decode cX6_copy 43 = .ok (.iaload, 1) := by decide +kernel
theorem dX6_copy_44 : decode cX6_copy 44 = .ok (.aload_n 0, 1) := by decide +kernel
theorem dX6_copy_45 : decode cX6_copy 45 = .ok (.getfield 68, 3) := by decide +kernel
theorem dX6_copy_48 : decode cX6_copy 48 = .ok (.iload_n 3, 1) := by decide +kernel
theorem dX6_copy_49 : decode cX6_copy 49 = .ok (.iaload, 1) := by decide +kernel
theorem dX6_copy_50 : decode cX6_copy 50 = .ok (.if_icmp .eq 6, 3) := by decide +kernel
theorem dX6_copy_53 : decode cX6_copy 53 = .ok (.bipush (-13), 2) := by decide +kernel
theorem dX6_copy_55 : decode cX6_copy 55 = .ok (.ireturn, 1) := by decide +kernel
theorem dX6_copy_56 : decode cX6_copy 56 = .ok (.iload 5, 2) := by decide +kernel
theorem dX6_copy_58 : decode cX6_copy 58 = .ok (.ifCond .lt 47, 3) := by decide +kernel
theorem dX6_copy_61 : decode cX6_copy 61 = .ok (.iload_n 2, 1) := by decide +kernel
theorem dX6_copy_62 : decode cX6_copy 62 = .ok (.ifCond .lt 43, 3) := by decide +kernel
theorem dX6_copy_65 : decode cX6_copy 65 = .ok (.iload 4, 2) := by decide +kernel
theorem dX6_copy_67 : decode cX6_copy 67 = .ok (.ifCond .lt 38, 3) := by decide +kernel
theorem dX6_copy_70 : decode cX6_copy 70 = .ok (.iload_n 2, 1) := by decide +kernel
theorem dX6_copy_71 : decode cX6_copy 71 = .ok (.i2l, 1) := by decide +kernel
theorem dX6_copy_72 : decode cX6_copy 72 = .ok (.iload 5, 2) := by decide +kernel
theorem dX6_copy_74 : decode cX6_copy 74 = .ok (.i2l, 1) := by decide +kernel
theorem dX6_copy_75 : decode cX6_copy 75 = .ok (.ladd, 1) := by decide +kernel
theorem dX6_copy_76 : decode cX6_copy 76 = .ok (.aload_n 0, 1) := by decide +kernel
theorem dX6_copy_77 : decode cX6_copy 77 = .ok (.getfield 71, 3) := by decide +kernel
theorem dX6_copy_80 : decode cX6_copy 80 = .ok (.iload_n 1, 1) := by decide +kernel
theorem dX6_copy_81 : decode cX6_copy 81 = .ok (.iaload, 1) := by decide +kernel
theorem dX6_copy_82 : decode cX6_copy 82 = .ok (.i2l, 1) := by decide +kernel
theorem dX6_copy_83 : decode cX6_copy 83 = .ok (.lcmp, 1) := by decide +kernel
theorem dX6_copy_84 : decode cX6_copy 84 = .ok (.ifCond .gt 21, 3) := by decide +kernel
theorem dX6_copy_87 : decode cX6_copy 87 = .ok (.iload 4, 2) := by decide +kernel
theorem dX6_copy_89 : decode cX6_copy 89 = .ok (.i2l, 1) := by decide +kernel
theorem dX6_copy_90 : decode cX6_copy 90 = .ok (.iload 5, 2) := by decide +kernel
theorem dX6_copy_92 : decode cX6_copy 92 = .ok (.i2l, 1) := by decide +kernel
theorem dX6_copy_93 : decode cX6_copy 93 = .ok (.ladd, 1) := by decide +kernel
theorem dX6_copy_94 : decode cX6_copy 94 = .ok (.aload_n 0, 1) := by decide +kernel
theorem dX6_copy_95 : decode cX6_copy 95 = .ok (.getfield 71, 3) := by decide +kernel
theorem dX6_copy_98 : decode cX6_copy 98 = .ok (.iload_n 3, 1) := by decide +kernel
theorem dX6_copy_99 : decode cX6_copy 99 = .ok (.iaload, 1) := by decide +kernel
theorem dX6_copy_100 : decode cX6_copy 100 = .ok (.i2l, 1) := by decide +kernel
theorem dX6_copy_101 : decode cX6_copy 101 = .ok (.lcmp, 1) := by decide +kernel
theorem dX6_copy_102 : decode cX6_copy 102 = .ok (.ifCond .le 6, 3) := by decide +kernel
theorem dX6_copy_105 : decode cX6_copy 105 = .ok (.bipush (-12), 2) := by decide +kernel
theorem dX6_copy_107 : decode cX6_copy 107 = .ok (.ireturn, 1) := by decide +kernel
theorem dX6_copy_108 : decode cX6_copy 108 = .ok (.iload_n 1, 1) := by decide +kernel
theorem dX6_copy_109 : decode cX6_copy 109 = .ok (.iload_n 3, 1) := by decide +kernel
theorem dX6_copy_110 : decode cX6_copy 110 = .ok (.if_icmp .ne 58, 3) := by decide +kernel
theorem dX6_copy_113 : decode cX6_copy 113 = .ok (.iload_n 2, 1) := by decide +kernel
theorem dX6_copy_114 : decode cX6_copy 114 = .ok (.iload 4, 2) := by decide +kernel
theorem dX6_copy_116 : decode cX6_copy 116 = .ok (.if_icmp .ge 52, 3) := by decide +kernel
theorem dX6_copy_119 : decode cX6_copy 119 = .ok (.iload 5, 2) := by decide +kernel
theorem dX6_copy_121 : decode cX6_copy 121 = .ok (.iconst 1, 1) := by decide +kernel
theorem dX6_copy_122 : decode cX6_copy 122 = .ok (.isub, 1) := by decide +kernel
theorem dX6_copy_123 : decode cX6_copy 123 = .ok (.istore 6, 2) := by decide +kernel
theorem dX6_copy_125 : decode cX6_copy 125 = .ok (.iload 6, 2) := by decide +kernel
theorem dX6_copy_127 : decode cX6_copy 127 = .ok (.ifCond .lt 38, 3) := by decide +kernel
theorem dX6_copy_130 : decode cX6_copy 130 = .ok (.aload_n 0, 1) := by decide +kernel
theorem dX6_copy_131 : decode cX6_copy 131 = .ok (.getfield 74, 3) := by decide +kernel
theorem dX6_copy_134 : decode cX6_copy 134 = .ok (.bipush 40, 2) := by decide +kernel
theorem dX6_copy_136 : decode cX6_copy 136 = .ok (.iload_n 3, 1) := by decide +kernel
theorem dX6_copy_137 : decode cX6_copy 137 = .ok (.imul, 1) := by decide +kernel
theorem dX6_copy_138 : decode cX6_copy 138 = .ok (.iload 4, 2) := by decide +kernel
theorem dX6_copy_140 : decode cX6_copy 140 = .ok (.iadd, 1) := by decide +kernel
theorem dX6_copy_141 : decode cX6_copy 141 = .ok (.iload 6, 2) := by decide +kernel
theorem dX6_copy_143 : decode cX6_copy 143 = .ok (.iadd, 1) := by decide +kernel
theorem dX6_copy_144 : decode cX6_copy 144 = .ok (.aload_n 0, 1) := by decide +kernel
theorem dX6_copy_145 : decode cX6_copy 145 = .ok (.getfield 74, 3) := by decide +kernel
theorem dX6_copy_148 : decode cX6_copy 148 = .ok (.bipush 40, 2) := by decide +kernel
theorem dX6_copy_150 : decode cX6_copy 150 = .ok (.iload_n 1, 1) := by decide +kernel
theorem dX6_copy_151 : decode cX6_copy 151 = .ok (.imul, 1) := by decide +kernel
theorem dX6_copy_152 : decode cX6_copy 152 = .ok (.iload_n 2, 1) := by decide +kernel
theorem dX6_copy_153 : decode cX6_copy 153 = .ok (.iadd, 1) := by decide +kernel
theorem dX6_copy_154 : decode cX6_copy 154 = .ok (.iload 6, 2) := by decide +kernel
theorem dX6_copy_156 : decode cX6_copy 156 = .ok (.iadd, 1) := by decide +kernel
theorem dX6_copy_157 : decode cX6_copy 157 = .ok (.iaload, 1) := by decide +kernel
theorem dX6_copy_158 : decode cX6_copy 158 = .ok (.iastore, 1) := by decide +kernel
theorem dX6_copy_159 : decode cX6_copy 159 = .ok (.iinc 6 (-1), 3) := by decide +kernel
theorem dX6_copy_162 : decode cX6_copy 162 = .ok (.goto (-37), 3) := by decide +kernel
theorem dX6_copy_165 : decode cX6_copy 165 = .ok (.goto 48, 3) := by decide +kernel
theorem dX6_copy_168 : decode cX6_copy 168 = .ok (.iconst 0, 1) := by decide +kernel
theorem dX6_copy_169 : decode cX6_copy 169 = .ok (.istore 6, 2) := by decide +kernel
theorem dX6_copy_171 : decode cX6_copy 171 = .ok (.iload 6, 2) := by decide +kernel
theorem dX6_copy_173 : decode cX6_copy 173 = .ok (.iload 5, 2) := by decide +kernel
theorem dX6_copy_175 : decode cX6_copy 175 = .ok (.if_icmp .ge 38, 3) := by decide +kernel
theorem dX6_copy_178 : decode cX6_copy 178 = .ok (.aload_n 0, 1) := by decide +kernel
theorem dX6_copy_179 : decode cX6_copy 179 = .ok (.getfield 74, 3) := by decide +kernel
theorem dX6_copy_182 : decode cX6_copy 182 = .ok (.bipush 40, 2) := by decide +kernel
theorem dX6_copy_184 : decode cX6_copy 184 = .ok (.iload_n 3, 1) := by decide +kernel
theorem dX6_copy_185 : decode cX6_copy 185 = .ok (.imul, 1) := by decide +kernel
theorem dX6_copy_186 : decode cX6_copy 186 = .ok (.iload 4, 2) := by decide +kernel
theorem dX6_copy_188 : decode cX6_copy 188 = .ok (.iadd, 1) := by decide +kernel
theorem dX6_copy_189 : decode cX6_copy 189 = .ok (.iload 6, 2) := by decide +kernel
theorem dX6_copy_191 : decode cX6_copy 191 = .ok (.iadd, 1) := by decide +kernel
theorem dX6_copy_192 : decode cX6_copy 192 = .ok (.aload_n 0, 1) := by decide +kernel
theorem dX6_copy_193 : decode cX6_copy 193 = .ok (.getfield 74, 3) := by decide +kernel
theorem dX6_copy_196 : decode cX6_copy 196 = .ok (.bipush 40, 2) := by decide +kernel
theorem dX6_copy_198 : decode cX6_copy 198 = .ok (.iload_n 1, 1) := by decide +kernel
theorem dX6_copy_199 : decode cX6_copy 199 = .ok (.imul, 1) := by decide +kernel
theorem dX6_copy_200 : decode cX6_copy 200 = .ok (.iload_n 2, 1) := by decide +kernel
theorem dX6_copy_201 : decode cX6_copy 201 = .ok (.iadd, 1) := by decide +kernel
theorem dX6_copy_202 : decode cX6_copy 202 = .ok (.iload 6, 2) := by decide +kernel
theorem dX6_copy_204 : decode cX6_copy 204 = .ok (.iadd, 1) := by decide +kernel
theorem dX6_copy_205 : decode cX6_copy 205 = .ok (.iaload, 1) := by decide +kernel
theorem dX6_copy_206 : decode cX6_copy 206 = .ok (.iastore, 1) := by decide +kernel
theorem dX6_copy_207 : decode cX6_copy 207 = .ok (.iinc 6 1, 3) := by decide +kernel
theorem dX6_copy_210 : decode cX6_copy 210 = .ok (.goto (-39), 3) := by decide +kernel
theorem dX6_copy_213 : decode cX6_copy 213 = .ok (.iload 5, 2) := by decide +kernel
theorem dX6_copy_215 : decode cX6_copy 215 = .ok (.ireturn, 1) := by decide +kernel
theorem dX6_people_0 : decode cX6_people 0 = .ok (.iload_n 1, 1) := by decide +kernel
theorem dX6_people_1 : decode cX6_people 1 = .ok (.invokestatic 325, 3) := by decide +kernel
theorem dX6_people_4 : decode cX6_people 4 = .ok (.ifCond .eq 22, 3) := by decide +kernel
theorem dX6_people_7 : decode cX6_people 7 = .ok (.iload_n 2, 1) := by decide +kernel
theorem dX6_people_8 : decode cX6_people 8 = .ok (.iconst 0, 1) := by decide +kernel
theorem dX6_people_9 : decode cX6_people 9 = .ok (.iconst 2, 1) := by decide +kernel
theorem dX6_people_10 : decode cX6_people 10 = .ok (.invokestatic 88, 3) := by decide +kernel
theorem dX6_people_13 : decode cX6_people 13 = .ok (.ifCond .eq 13, 3) := by decide +kernel
theorem dX6_people_16 : decode cX6_people 16 = .ok (.iload 4, 2) := by decide +kernel
theorem dX6_people_18 : decode cX6_people 18 = .ok (.iconst 0, 1) := by decide +kernel
theorem dX6_people_19 : decode cX6_people 19 = .ok (.iconst 5, 1) := by decide +kernel
theorem dX6_people_20 : decode cX6_people 20 = .ok (.invokestatic 88, 3) := by decide +kernel
theorem dX6_people_23 : decode cX6_people 23 = .ok (.ifCond .ne 6, 3) := by decide +kernel
theorem dX6_people_26 : decode cX6_people 26 = .ok (.bipush (-2), 2) := by decide +kernel
theorem dX6_people_28 : decode cX6_people 28 = .ok (.ireturn, 1) := by decide +kernel
theorem dX6_people_29 : decode cX6_people 29 = .ok (.aload_n 0, 1) := by decide +kernel
theorem dX6_people_30 : decode cX6_people 30 = .ok (.getfield 68, 3) := by decide +kernel
theorem dX6_people_33 : decode cX6_people 33 = .ok (.iload_n 1, 1) := by decide +kernel
theorem dX6_people_34 : decode cX6_people 34 = .ok (.iaload, 1) := by decide +kernel
theorem dX6_people_35 : decode cX6_people 35 = .ok (.ifCond .ge 6, 3) := by decide +kernel
theorem dX6_people_38 : decode cX6_people 38 = .ok (.bipush (-11), 2) := by decide +kernel
theorem dX6_people_40 : decode cX6_people 40 = .ok (.ireturn, 1) := by decide +kernel
theorem dX6_people_41 : decode cX6_people 41 = .ok (.aload_n 0, 1) := by decide +kernel
theorem dX6_people_42 : decode cX6_people 42 = .ok (.getfield 68, 3) := by decide +kernel
theorem dX6_people_45 : decode cX6_people 45 = .ok (.iload_n 1, 1) := by decide +kernel
theorem dX6_people_46 : decode cX6_people 46 = .ok (.iaload, 1) := by decide +kernel
theorem dX6_people_47 : decode cX6_people 47 = .ok (.iload_n 2, 1) := by decide +kernel
theorem dX6_people_48 : decode cX6_people 48 = .ok (.if_icmp .eq 6, 3) := by decide +kernel
theorem dX6_people_51 : decode cX6_people 51 = .ok (.bipush (-13), 2) := by decide +kernel
theorem dX6_people_53 : decode cX6_people 53 = .ok (.ireturn, 1) := by decide +kernel
theorem dX6_people_54 : decode cX6_people 54 = .ok (.iconst 0, 1) := by decide +kernel
theorem dX6_people_55 : decode cX6_people 55 = .ok (.istore 5, 2) := by decide +kernel
theorem dX6_people_57 : decode cX6_people 57 = .ok (.iconst 0, 1) := by decide +kernel
theorem dX6_people_58 : decode cX6_people 58 = .ok (.istore 6, 2) := by decide +kernel
theorem dX6_people_60 : decode cX6_people 60 = .ok (.iload 6, 2) := by decide +kernel
theorem dX6_people_62 : decode cX6_people 62 = .ok (.iload 4, 2) := by decide +kernel
theorem dX6_people_64 : decode cX6_people 64 = .ok (.if_icmp .ge 93, 3) := by decide +kernel
theorem dX6_people_67 : decode cX6_people 67 = .ok (.iload_n 3, 1) := by decide +kernel
theorem dX6_people_68 : decode cX6_people 68 = .ok (.i2l, 1) := by decide +kernel
theorem dX6_people_69 : decode cX6_people 69 = .ok (.ldc2_w 368, 3) := by decide +kernel
theorem dX6_people_72 : decode cX6_people 72 = .ok (.iload 6, 2) := by decide +kernel
theorem dX6_people_74 : decode cX6_people 74 = .ok (.i2l, 1) := by decide +kernel
theorem dX6_people_75 : decode cX6_people 75 = .ok (.lmul, 1) := by decide +kernel
theorem dX6_people_76 : decode cX6_people 76 = .ok (.ladd, 1) := by decide +kernel
theorem dX6_people_77 : decode cX6_people 77 = .ok (.lstore 7, 2) := by decide +kernel
theorem dX6_people_79 : decode cX6_people 79 = .ok (.lload 7, 2) := by decide +kernel
theorem dX6_people_81 : decode cX6_people 81 = .ok (.lconst 0, 1) := by decide +kernel
theorem dX6_people_82 : decode cX6_people 82 = .ok (.lcmp, 1) := by decide +kernel
theorem dX6_people_83 : decode cX6_people 83 = .ok (.ifCond .lt 20, 3) := by decide +kernel
theorem dX6_people_86 : decode cX6_people 86 = .ok (.lload 7, 2) := by decide +kernel
theorem dX6_people_88 : decode cX6_people 88 = .ok (.ldc2_w 370, 3) := by decide +kernel
theorem dX6_people_91 : decode cX6_people 91 = .ok (.ladd, 1) := by decide +kernel
theorem dX6_people_92 : decode cX6_people 92 = .ok (.aload_n 0, 1) := by decide +kernel
theorem dX6_people_93 : decode cX6_people 93 = .ok (.getfield 71, 3) := by decide +kernel
theorem dX6_people_96 : decode cX6_people 96 = .ok (.iload_n 1, 1) := by decide +kernel
theorem dX6_people_97 : decode cX6_people 97 = .ok (.iaload, 1) := by decide +kernel
theorem dX6_people_98 : decode cX6_people 98 = .ok (.i2l, 1) := by decide +kernel
theorem dX6_people_99 : decode cX6_people 99 = .ok (.lcmp, 1) := by decide +kernel
theorem dX6_people_100 : decode cX6_people 100 = .ok (.ifCond .lt 6, 3) := by decide +kernel
theorem dX6_people_103 : decode cX6_people 103 = .ok (.bipush (-12), 2) := by decide +kernel
theorem dX6_people_105 : decode cX6_people 105 = .ok (.ireturn, 1) := by decide +kernel
theorem dX6_people_106 : decode cX6_people 106 = .ok (.bipush 40, 2) := by decide +kernel
theorem dX6_people_108 : decode cX6_people 108 = .ok (.iload_n 1, 1) := by decide +kernel
theorem dX6_people_109 : decode cX6_people 109 = .ok (.imul, 1) := by decide +kernel
theorem dX6_people_110 : decode cX6_people 110 = .ok (.lload 7, 2) := by decide +kernel
theorem dX6_people_112 : decode cX6_people 112 = .ok (.l2i, 1) := by decide +kernel
theorem dX6_people_113 : decode cX6_people 113 = .ok (.iadd, 1) := by decide +kernel
theorem dX6_people_114 : decode cX6_people 114 = .ok (.istore 9, 2) := by decide +kernel
theorem dX6_people_116 : decode cX6_people 116 = .ok (.aload_n 0, 1) := by decide +kernel
theorem dX6_people_117 : decode cX6_people 117 = .ok (.aload_n 0, 1) := by decide +kernel
theorem dX6_people_118 : decode cX6_people 118 = .ok (.getfield 74, 3) := by decide +kernel
theorem dX6_people_121 : decode cX6_people 121 = .ok (.iload 9, 2) := by decide +kernel
theorem dX6_people_123 : decode cX6_people 123 = .ok (.iaload, 1) := by decide +kernel
theorem dX6_people_124 : decode cX6_people 124 = .ok (.aload_n 0, 1) := by decide +kernel
theorem dX6_people_125 : decode cX6_people 125 = .ok (.getfield 74, 3) := by decide +kernel
theorem dX6_people_128 : decode cX6_people 128 = .ok (.iload 9, 2) := by decide +kernel
theorem dX6_people_130 : decode cX6_people 130 = .ok (.iconst 1, 1) := by decide +kernel
theorem dX6_people_131 : decode cX6_people 131 = .ok (.iadd, 1) := by decide +kernel
theorem dX6_people_132 : decode cX6_people 132 = .ok (.iaload, 1) := by decide +kernel
theorem dX6_people_133 : decode cX6_people 133 = .ok (.aload_n 0, 1) := by decide +kernel
theorem dX6_people_134 : decode cX6_people 134 = .ok (.getfield 74, 3) := by decide +kernel
theorem dX6_people_137 : decode cX6_people 137 = .ok (.iload 9, 2) := by decide +kernel
theorem dX6_people_139 : decode cX6_people 139 = .ok (.iconst 2, 1) := by decide +kernel
theorem dX6_people_140 : decode cX6_people 140 = .ok (.iadd, 1) := by decide +kernel
theorem dX6_people_141 : decode cX6_people 141 = .ok (.iaload, 1) := by decide +kernel
theorem dX6_people_142 : decode cX6_people 142 = .ok (.invokevirtual 372, 3) := by decide +kernel
theorem dX6_people_145 : decode cX6_people 145 = .ok (.ifCond .lt 6, 3) := by decide +kernel
theorem dX6_people_148 : decode cX6_people 148 = .ok (.iinc 5 1, 3) := by decide +kernel
theorem dX6_people_151 : decode cX6_people 151 = .ok (.iinc 6 1, 3) := by decide +kernel
theorem dX6_people_154 : decode cX6_people 154 = .ok (.goto (-94), 3) := by decide +kernel
theorem dX6_people_157 : decode cX6_people 157 = .ok (.iload 5, 2) := by decide +kernel
theorem dX6_people_159 : decode cX6_people 159 = .ok (.ireturn, 1) := by decide +kernel
theorem dX6_taken_0 : decode cX6_taken 0 = .ok (.iload_n 2, 1) := by decide +kernel
theorem dX6_taken_1 : decode cX6_taken 1 = .ok (.iconst 0, 1) := by decide +kernel
theorem dX6_taken_2 : decode cX6_taken 2 = .ok (.iconst 5, 1) := by decide +kernel
theorem dX6_taken_3 : decode cX6_taken 3 = .ok (.invokestatic 88, 3) := by decide +kernel
theorem dX6_taken_6 : decode cX6_taken 6 = .ok (.ifCond .ne 6, 3) := by decide +kernel
theorem dX6_taken_9 : decode cX6_taken 9 = .ok (.bipush (-2), 2) := by decide +kernel
theorem dX6_taken_11 : decode cX6_taken 11 = .ok (.ireturn, 1) := by decide +kernel
theorem dX6_taken_12 : decode cX6_taken 12 = .ok (.aload_n 0, 1) := by decide +kernel
theorem dX6_taken_13 : decode cX6_taken 13 = .ok (.iload_n 1, 1) := by decide +kernel
theorem dX6_taken_14 : decode cX6_taken 14 = .ok (.invokevirtual 92, 3) := by decide +kernel
theorem dX6_taken_17 : decode cX6_taken 17 = .ok (.ifCond .ne 6, 3) := by decide +kernel
theorem dX6_taken_20 : decode cX6_taken 20 = .ok (.bipush (-11), 2) := by decide +kernel
theorem dX6_taken_22 : decode cX6_taken 22 = .ok (.ireturn, 1) := by decide +kernel
theorem dX6_taken_23 : decode cX6_taken 23 = .ok (.aload_n 0, 1) := by decide +kernel
theorem dX6_taken_24 : decode cX6_taken 24 = .ok (.getfield 7, 3) := by decide +kernel
theorem dX6_taken_27 : decode cX6_taken 27 = .ok (.iload_n 1, 1) := by decide +kernel
theorem dX6_taken_28 : decode cX6_taken 28 = .ok (.iaload, 1) := by decide +kernel
theorem dX6_taken_29 : decode cX6_taken 29 = .ok (.istore_n 3, 1) := by decide +kernel
theorem dX6_taken_30 : decode cX6_taken 30 = .ok (.iload_n 3, 1) := by decide +kernel
theorem dX6_taken_31 : decode cX6_taken 31 = .ok (.iload_n 2, 1) := by decide +kernel
theorem dX6_taken_32 : decode cX6_taken 32 = .ok (.if_icmp .eq 30, 3) := by decide +kernel
theorem dX6_taken_35 : decode cX6_taken 35 = .ok (.iload_n 3, 1) := by decide +kernel
theorem dX6_taken_36 : decode cX6_taken 36 = .ok (.ifCond .le 26, 3) := by decide +kernel
theorem dX6_taken_39 : decode cX6_taken 39 = .ok (.iload_n 3, 1) := by decide +kernel
theorem dX6_taken_40 : decode cX6_taken 40 = .ok (.iconst 3, 1) := by decide +kernel
theorem dX6_taken_41 : decode cX6_taken 41 = .ok (.if_icmp .ne 7, 3) := by decide +kernel
theorem dX6_taken_44 : decode cX6_taken 44 = .ok (.iconst 1, 1) := by decide +kernel
theorem dX6_taken_45 : decode cX6_taken 45 = .ok (.goto 13, 3) := by decide +kernel
theorem dX6_taken_48 : decode cX6_taken 48 = .ok (.iload_n 3, 1) := by decide +kernel
theorem dX6_taken_49 : decode cX6_taken 49 = .ok (.iconst 4, 1) := by decide +kernel
theorem dX6_taken_50 : decode cX6_taken 50 = .ok (.if_icmp .ne 7, 3) := by decide +kernel
theorem dX6_taken_53 : decode cX6_taken 53 = .ok (.iconst 2, 1) := by decide +kernel
theorem dX6_taken_54 : decode cX6_taken 54 = .ok (.goto 4, 3) := by decide +kernel
theorem dX6_taken_57 : decode cX6_taken 57 = .ok (.iconst 0, 1) := by decide +kernel
theorem dX6_taken_58 : decode cX6_taken 58 = .ok (.istore_n 3, 1) := by decide +kernel
theorem dX6_taken_59 : decode cX6_taken 59 = .ok (.goto (-29), 3) := by decide +kernel
theorem dX6_taken_62 : decode cX6_taken 62 = .ok (.iload_n 3, 1) := by decide +kernel
theorem dX6_taken_63 : decode cX6_taken 63 = .ok (.iload_n 2, 1) := by decide +kernel
theorem dX6_taken_64 : decode cX6_taken 64 = .ok (.if_icmp .ne 12, 3) := by decide +kernel
theorem dX6_taken_67 : decode cX6_taken 67 = .ok (.aload_n 0, 1) := by decide +kernel
theorem dX6_taken_68 : decode cX6_taken 68 = .ok (.getfield 13, 3) := by decide +kernel
theorem dX6_taken_71 : decode cX6_taken 71 = .ok (.iload_n 1, 1) := by decide +kernel
theorem dX6_taken_72 : decode cX6_taken 72 = .ok (.iaload, 1) := by decide +kernel
theorem dX6_taken_73 : decode cX6_taken 73 = .ok (.goto 5, 3) := by decide +kernel
theorem dX6_taken_76 : decode cX6_taken 76 = .ok (.bipush (-13), 2) := by decide +kernel
theorem dX6_taken_78 : decode cX6_taken 78 = .ok (.ireturn, 1) := by decide +kernel
theorem dJ11_isValidCodePoint_9a6ad_0 : decode cJ11_isValidCodePoint_9a6ad 0 = .ok (.iload_n 0, 1) := by decide +kernel
theorem dJ11_isValidCodePoint_9a6ad_1 : decode cJ11_isValidCodePoint_9a6ad 1 = .ok (.bipush 16, 2) := by decide +kernel
theorem dJ11_isValidCodePoint_9a6ad_3 : decode cJ11_isValidCodePoint_9a6ad 3 = .ok (.iushr, 1) := by decide +kernel
theorem dJ11_isValidCodePoint_9a6ad_4 : decode cJ11_isValidCodePoint_9a6ad 4 = .ok (.istore_n 1, 1) := by decide +kernel
theorem dJ11_isValidCodePoint_9a6ad_5 : decode cJ11_isValidCodePoint_9a6ad 5 = .ok (.iload_n 1, 1) := by decide +kernel
theorem dJ11_isValidCodePoint_9a6ad_6 : decode cJ11_isValidCodePoint_9a6ad 6 = .ok (.bipush 17, 2) := by decide +kernel
theorem dJ11_isValidCodePoint_9a6ad_8 : decode cJ11_isValidCodePoint_9a6ad 8 = .ok (.if_icmp .ge 7, 3) := by decide +kernel
theorem dJ11_isValidCodePoint_9a6ad_11 : decode cJ11_isValidCodePoint_9a6ad 11 = .ok (.iconst 1, 1) := by decide +kernel
theorem dJ11_isValidCodePoint_9a6ad_12 : decode cJ11_isValidCodePoint_9a6ad 12 = .ok (.goto 4, 3) := by decide +kernel
theorem dJ11_isValidCodePoint_9a6ad_15 : decode cJ11_isValidCodePoint_9a6ad 15 = .ok (.iconst 0, 1) := by decide +kernel
theorem dJ11_isValidCodePoint_9a6ad_16 : decode cJ11_isValidCodePoint_9a6ad 16 = .ok (.ireturn, 1) := by decide +kernel
theorem dJ11_highSurrogate_5068e_0 : decode cJ11_highSurrogate_5068e 0 = .ok (.iload_n 0, 1) := by decide +kernel
theorem dJ11_highSurrogate_5068e_1 : decode cJ11_highSurrogate_5068e 1 = .ok (.bipush 10, 2) := by decide +kernel
theorem dJ11_highSurrogate_5068e_3 : decode cJ11_highSurrogate_5068e 3 = .ok (.iushr, 1) := by decide +kernel
theorem dJ11_highSurrogate_5068e_4 : decode cJ11_highSurrogate_5068e 4 = .ok (.ldc 110, 2) := by decide +kernel
theorem dJ11_highSurrogate_5068e_6 : decode cJ11_highSurrogate_5068e 6 = .ok (.iadd, 1) := by decide +kernel
theorem dJ11_highSurrogate_5068e_7 : decode cJ11_highSurrogate_5068e 7 = .ok (.i2c, 1) := by decide +kernel
theorem dJ11_highSurrogate_5068e_8 : decode cJ11_highSurrogate_5068e 8 = .ok (.ireturn, 1) := by decide +kernel
theorem dJ11_lowSurrogate_5068e_0 : decode cJ11_lowSurrogate_5068e 0 = .ok (.iload_n 0, 1) := by decide +kernel
theorem dJ11_lowSurrogate_5068e_1 : decode cJ11_lowSurrogate_5068e 1 = .ok (.sipush 1023, 3) := by decide +kernel
theorem dJ11_lowSurrogate_5068e_4 : decode cJ11_lowSurrogate_5068e 4 = .ok (.iand, 1) := by decide +kernel
theorem dJ11_lowSurrogate_5068e_5 : decode cJ11_lowSurrogate_5068e 5 = .ok (.ldc 76, 2) := by decide +kernel
theorem dJ11_lowSurrogate_5068e_7 : decode cJ11_lowSurrogate_5068e 7 = .ok (.iadd, 1) := by decide +kernel
theorem dJ11_lowSurrogate_5068e_8 : decode cJ11_lowSurrogate_5068e 8 = .ok (.i2c, 1) := by decide +kernel
theorem dJ11_lowSurrogate_5068e_9 : decode cJ11_lowSurrogate_5068e 9 = .ok (.ireturn, 1) := by decide +kernel
theorem dJ6_bitCount_0f7a4_0 : decode cJ6_bitCount_0f7a4 0 = .ok (.iload_n 0, 1) := by decide +kernel
theorem dJ6_bitCount_0f7a4_1 : decode cJ6_bitCount_0f7a4 1 = .ok (.iload_n 0, 1) := by decide +kernel
theorem dJ6_bitCount_0f7a4_2 : decode cJ6_bitCount_0f7a4 2 = .ok (.iconst 1, 1) := by decide +kernel
theorem dJ6_bitCount_0f7a4_3 : decode cJ6_bitCount_0f7a4 3 = .ok (.iushr, 1) := by decide +kernel
theorem dJ6_bitCount_0f7a4_4 : decode cJ6_bitCount_0f7a4 4 = .ok (.ldc_w 265, 3) := by decide +kernel
theorem dJ6_bitCount_0f7a4_7 : decode cJ6_bitCount_0f7a4 7 = .ok (.iand, 1) := by decide +kernel
theorem dJ6_bitCount_0f7a4_8 : decode cJ6_bitCount_0f7a4 8 = .ok (.isub, 1) := by decide +kernel
theorem dJ6_bitCount_0f7a4_9 : decode cJ6_bitCount_0f7a4 9 = .ok (.istore_n 0, 1) := by decide +kernel
theorem dJ6_bitCount_0f7a4_10 : decode cJ6_bitCount_0f7a4 10 = .ok (.iload_n 0, 1) := by decide +kernel
theorem dJ6_bitCount_0f7a4_11 : decode cJ6_bitCount_0f7a4 11 = .ok (.ldc_w 266, 3) := by decide +kernel
theorem dJ6_bitCount_0f7a4_14 : decode cJ6_bitCount_0f7a4 14 = .ok (.iand, 1) := by decide +kernel
theorem dJ6_bitCount_0f7a4_15 : decode cJ6_bitCount_0f7a4 15 = .ok (.iload_n 0, 1) := by decide +kernel
theorem dJ6_bitCount_0f7a4_16 : decode cJ6_bitCount_0f7a4 16 = .ok (.iconst 2, 1) := by decide +kernel
theorem dJ6_bitCount_0f7a4_17 : decode cJ6_bitCount_0f7a4 17 = .ok (.iushr, 1) := by decide +kernel
theorem dJ6_bitCount_0f7a4_18 : decode cJ6_bitCount_0f7a4 18 = .ok (.ldc_w 266, 3) := by decide +kernel
theorem dJ6_bitCount_0f7a4_21 : decode cJ6_bitCount_0f7a4 21 = .ok (.iand, 1) := by decide +kernel
theorem dJ6_bitCount_0f7a4_22 : decode cJ6_bitCount_0f7a4 22 = .ok (.iadd, 1) := by decide +kernel
theorem dJ6_bitCount_0f7a4_23 : decode cJ6_bitCount_0f7a4 23 = .ok (.istore_n 0, 1) := by decide +kernel
theorem dJ6_bitCount_0f7a4_24 : decode cJ6_bitCount_0f7a4 24 = .ok (.iload_n 0, 1) := by decide +kernel
theorem dJ6_bitCount_0f7a4_25 : decode cJ6_bitCount_0f7a4 25 = .ok (.iload_n 0, 1) := by decide +kernel
theorem dJ6_bitCount_0f7a4_26 : decode cJ6_bitCount_0f7a4 26 = .ok (.iconst 4, 1) := by decide +kernel
theorem dJ6_bitCount_0f7a4_27 : decode cJ6_bitCount_0f7a4 27 = .ok (.iushr, 1) := by decide +kernel
theorem dJ6_bitCount_0f7a4_28 : decode cJ6_bitCount_0f7a4 28 = .ok (.iadd, 1) := by decide +kernel
theorem dJ6_bitCount_0f7a4_29 : decode cJ6_bitCount_0f7a4 29 = .ok (.ldc_w 267, 3) := by decide +kernel
theorem dJ6_bitCount_0f7a4_32 : decode cJ6_bitCount_0f7a4 32 = .ok (.iand, 1) := by decide +kernel
theorem dJ6_bitCount_0f7a4_33 : decode cJ6_bitCount_0f7a4 33 = .ok (.istore_n 0, 1) := by decide +kernel
theorem dJ6_bitCount_0f7a4_34 : decode cJ6_bitCount_0f7a4 34 = .ok (.iload_n 0, 1) := by decide +kernel
theorem dJ6_bitCount_0f7a4_35 : decode cJ6_bitCount_0f7a4 35 = .ok (.iload_n 0, 1) := by decide +kernel
theorem dJ6_bitCount_0f7a4_36 : decode cJ6_bitCount_0f7a4 36 = .ok (.bipush 8, 2) := by decide +kernel
theorem dJ6_bitCount_0f7a4_38 : decode cJ6_bitCount_0f7a4 38 = .ok (.iushr, 1) := by decide +kernel
theorem dJ6_bitCount_0f7a4_39 : decode cJ6_bitCount_0f7a4 39 = .ok (.iadd, 1) := by decide +kernel
theorem dJ6_bitCount_0f7a4_40 : decode cJ6_bitCount_0f7a4 40 = .ok (.istore_n 0, 1) := by decide +kernel
theorem dJ6_bitCount_0f7a4_41 : decode cJ6_bitCount_0f7a4 41 = .ok (.iload_n 0, 1) := by decide +kernel
theorem dJ6_bitCount_0f7a4_42 : decode cJ6_bitCount_0f7a4 42 = .ok (.iload_n 0, 1) := by decide +kernel
theorem dJ6_bitCount_0f7a4_43 : decode cJ6_bitCount_0f7a4 43 = .ok (.bipush 16, 2) := by decide +kernel
theorem dJ6_bitCount_0f7a4_45 : decode cJ6_bitCount_0f7a4 45 = .ok (.iushr, 1) := by decide +kernel
theorem dJ6_bitCount_0f7a4_46 : decode cJ6_bitCount_0f7a4 46 = .ok (.iadd, 1) := by decide +kernel
theorem dJ6_bitCount_0f7a4_47 : decode cJ6_bitCount_0f7a4 47 = .ok (.istore_n 0, 1) := by decide +kernel
theorem dJ6_bitCount_0f7a4_48 : decode cJ6_bitCount_0f7a4 48 = .ok (.iload_n 0, 1) := by decide +kernel
theorem dJ6_bitCount_0f7a4_49 : decode cJ6_bitCount_0f7a4 49 = .ok (.bipush 63, 2) := by decide +kernel
theorem dJ6_bitCount_0f7a4_51 : decode cJ6_bitCount_0f7a4 51 = .ok (.iand, 1) := by decide +kernel
theorem dJ6_bitCount_0f7a4_52 : decode cJ6_bitCount_0f7a4 52 = .ok (.ireturn, 1) := by decide +kernel
theorem dJ9_max_7cf53_0 : decode cJ9_max_7cf53 0 = .ok (.iload_n 0, 1) := by decide +kernel
theorem dJ9_max_7cf53_1 : decode cJ9_max_7cf53 1 = .ok (.iload_n 1, 1) := by decide +kernel
theorem dJ9_max_7cf53_2 : decode cJ9_max_7cf53 2 = .ok (.if_icmp .lt 7, 3) := by decide +kernel
theorem dJ9_max_7cf53_5 : decode cJ9_max_7cf53 5 = .ok (.iload_n 0, 1) := by decide +kernel
theorem dJ9_max_7cf53_6 : decode cJ9_max_7cf53 6 = .ok (.goto 4, 3) := by decide +kernel
theorem dJ9_max_7cf53_9 : decode cJ9_max_7cf53 9 = .ok (.iload_n 1, 1) := by decide +kernel
theorem dJ9_max_7cf53_10 : decode cJ9_max_7cf53 10 = .ok (.ireturn, 1) := by decide +kernel
theorem dJ9_min_7cf53_0 : decode cJ9_min_7cf53 0 = .ok (.iload_n 0, 1) := by decide +kernel
theorem dJ9_min_7cf53_1 : decode cJ9_min_7cf53 1 = .ok (.iload_n 1, 1) := by decide +kernel
theorem dJ9_min_7cf53_2 : decode cJ9_min_7cf53 2 = .ok (.if_icmp .gt 7, 3) := by decide +kernel
theorem dJ9_min_7cf53_5 : decode cJ9_min_7cf53 5 = .ok (.iload_n 0, 1) := by decide +kernel
theorem dJ9_min_7cf53_6 : decode cJ9_min_7cf53 6 = .ok (.goto 4, 3) := by decide +kernel
theorem dJ9_min_7cf53_9 : decode cJ9_min_7cf53 9 = .ok (.iload_n 1, 1) := by decide +kernel
theorem dJ9_min_7cf53_10 : decode cJ9_min_7cf53 10 = .ok (.ireturn, 1) := by decide +kernel
theorem dJ9_min_f86c9_0 : decode cJ9_min_f86c9 0 = .ok (.lload_n 0, 1) := by decide +kernel
theorem dJ9_min_f86c9_1 : decode cJ9_min_f86c9 1 = .ok (.lload_n 2, 1) := by decide +kernel
theorem dJ9_min_f86c9_2 : decode cJ9_min_f86c9 2 = .ok (.lcmp, 1) := by decide +kernel
theorem dJ9_min_f86c9_3 : decode cJ9_min_f86c9 3 = .ok (.ifCond .gt 7, 3) := by decide +kernel
theorem dJ9_min_f86c9_6 : decode cJ9_min_f86c9 6 = .ok (.lload_n 0, 1) := by decide +kernel
theorem dJ9_min_f86c9_7 : decode cJ9_min_f86c9 7 = .ok (.goto 4, 3) := by decide +kernel
theorem dJ9_min_f86c9_10 : decode cJ9_min_f86c9 10 = .ok (.lload_n 2, 1) := by decide +kernel
theorem dJ9_min_f86c9_11 : decode cJ9_min_f86c9 11 = .ok (.lreturn, 1) := by decide +kernel
theorem dJ0_length_8abf5_0 : decode cJ0_length_8abf5 0 = .ok (.aload_n 0, 1) := by decide +kernel
theorem dJ0_length_8abf5_1 : decode cJ0_length_8abf5 1 = .ok (.getfield 9, 3) := by decide +kernel
theorem dJ0_length_8abf5_4 : decode cJ0_length_8abf5 4 = .ok (.arraylength, 1) := by decide +kernel
theorem dJ0_length_8abf5_5 : decode cJ0_length_8abf5 5 = .ok (.aload_n 0, 1) := by decide +kernel
theorem dJ0_length_8abf5_6 : decode cJ0_length_8abf5 6 = .ok (.invokevirtual 335, 3) := by decide +kernel
theorem dJ0_length_8abf5_9 : decode cJ0_length_8abf5 9 = .ok (.ishr, 1) := by decide +kernel
theorem dJ0_length_8abf5_10 : decode cJ0_length_8abf5 10 = .ok (.ireturn, 1) := by decide +kernel
theorem dJ0_charAt_5068e_0 : decode cJ0_charAt_5068e 0 = .ok (.aload_n 0, 1) := by decide +kernel
theorem dJ0_charAt_5068e_1 : decode cJ0_charAt_5068e 1 = .ok (.invokevirtual 492, 3) := by decide +kernel
theorem dJ0_charAt_5068e_4 : decode cJ0_charAt_5068e 4 = .ok (.ifCond .eq 12, 3) := by decide +kernel
theorem dJ0_charAt_5068e_7 : decode cJ0_charAt_5068e 7 = .ok (.aload_n 0, 1) := by decide +kernel
theorem dJ0_charAt_5068e_8 : decode cJ0_charAt_5068e 8 = .ok (.getfield 9, 3) := by decide +kernel
theorem dJ0_charAt_5068e_11 : decode cJ0_charAt_5068e 11 = .ok (.iload_n 1, 1) := by decide +kernel
theorem dJ0_charAt_5068e_12 : decode cJ0_charAt_5068e 12 = .ok (.invokestatic 495, 3) := by decide +kernel
theorem dJ0_charAt_5068e_15 : decode cJ0_charAt_5068e 15 = .ok (.ireturn, 1) := by decide +kernel
theorem dJ0_charAt_5068e_16 : decode cJ0_charAt_5068e 16 = .ok (.aload_n 0, 1) := by decide +kernel
theorem dJ0_charAt_5068e_17 : decode cJ0_charAt_5068e 17 = .ok (.getfield 9, 3) := by decide +kernel
theorem dJ0_charAt_5068e_20 : decode cJ0_charAt_5068e 20 = .ok (.iload_n 1, 1) := by decide +kernel
theorem dJ0_charAt_5068e_21 : decode cJ0_charAt_5068e 21 = .ok (.invokestatic 498, 3) := by decide +kernel
theorem dJ0_charAt_5068e_24 : decode cJ0_charAt_5068e 24 = .ok (.ireturn, 1) := by decide +kernel
theorem dJ0_indexOf_0f7a4_0 : decode cJ0_indexOf_0f7a4 0 = .ok (.aload_n 0, 1) := by decide +kernel
theorem dJ0_indexOf_0f7a4_1 : decode cJ0_indexOf_0f7a4 1 = .ok (.iload_n 1, 1) := by decide +kernel
theorem dJ0_indexOf_0f7a4_2 : decode cJ0_indexOf_0f7a4 2 = .ok (.iconst 0, 1) := by decide +kernel
theorem dJ0_indexOf_0f7a4_3 : decode cJ0_indexOf_0f7a4 3 = .ok (.invokevirtual 633, 3) := by decide +kernel
theorem dJ0_indexOf_0f7a4_6 : decode cJ0_indexOf_0f7a4 6 = .ok (.ireturn, 1) := by decide +kernel
theorem dJ0_indexOf_7cf53_0 : decode cJ0_indexOf_7cf53 0 = .ok (.aload_n 0, 1) := by decide +kernel
theorem dJ0_indexOf_7cf53_1 : decode cJ0_indexOf_7cf53 1 = .ok (.invokevirtual 492, 3) := by decide +kernel
theorem dJ0_indexOf_7cf53_4 : decode cJ0_indexOf_7cf53 4 = .ok (.ifCond .eq 19, 3) := by decide +kernel
theorem dJ0_indexOf_7cf53_7 : decode cJ0_indexOf_7cf53 7 = .ok (.aload_n 0, 1) := by decide +kernel
theorem dJ0_indexOf_7cf53_8 : decode cJ0_indexOf_7cf53 8 = .ok (.getfield 9, 3) := by decide +kernel
theorem dJ0_indexOf_7cf53_11 : decode cJ0_indexOf_7cf53 11 = .ok (.iload_n 1, 1) := by decide +kernel
theorem dJ0_indexOf_7cf53_12 : decode cJ0_indexOf_7cf53 12 = .ok (.iload_n 2, 1) := by decide +kernel
theorem dJ0_indexOf_7cf53_13 : decode cJ0_indexOf_7cf53 13 = .ok (.aload_n 0, 1) := by decide +kernel
theorem dJ0_indexOf_7cf53_14 : decode cJ0_indexOf_7cf53 14 = .ok (.invokevirtual 505, 3) := by decide +kernel
theorem dJ0_indexOf_7cf53_17 : decode cJ0_indexOf_7cf53 17 = .ok (.invokestatic 637, 3) := by decide +kernel
theorem dJ0_indexOf_7cf53_20 : decode cJ0_indexOf_7cf53 20 = .ok (.goto 16, 3) := by decide +kernel
theorem dJ0_indexOf_7cf53_23 : decode cJ0_indexOf_7cf53 23 = .ok (.aload_n 0, 1) := by decide +kernel
theorem dJ0_indexOf_7cf53_24 : decode cJ0_indexOf_7cf53 24 = .ok (.getfield 9, 3) := by decide +kernel
theorem dJ0_indexOf_7cf53_27 : decode cJ0_indexOf_7cf53 27 = .ok (.iload_n 1, 1) := by decide +kernel
theorem dJ0_indexOf_7cf53_28 : decode cJ0_indexOf_7cf53 28 = .ok (.iload_n 2, 1) := by decide +kernel
theorem dJ0_indexOf_7cf53_29 : decode cJ0_indexOf_7cf53 29 = .ok (.aload_n 0, 1) := by decide +kernel
theorem dJ0_indexOf_7cf53_30 : decode cJ0_indexOf_7cf53 30 = .ok (.invokevirtual 505, 3) := by decide +kernel
theorem dJ0_indexOf_7cf53_33 : decode cJ0_indexOf_7cf53 33 = .ok (.invokestatic 640, 3) := by decide +kernel
theorem dJ0_indexOf_7cf53_36 : decode cJ0_indexOf_7cf53 36 = .ok (.ireturn, 1) := by decide +kernel
theorem dJ0_coder_7d493_0 : decode cJ0_coder_7d493 0 = .ok (.getstatic 38, 3) := by decide +kernel
theorem dJ0_coder_7d493_3 : decode cJ0_coder_7d493 3 = .ok (.ifCond .eq 10, 3) := by decide +kernel
theorem dJ0_coder_7d493_6 : decode cJ0_coder_7d493 6 = .ok (.aload_n 0, 1) := by decide +kernel
theorem dJ0_coder_7d493_7 : decode cJ0_coder_7d493 7 = .ok (.getfield 15, 3) := by decide +kernel
theorem dJ0_coder_7d493_10 : decode cJ0_coder_7d493 10 = .ok (.goto 4, 3) := by decide +kernel
theorem dJ0_coder_7d493_13 : decode cJ0_coder_7d493 13 = .ok (.iconst 1, 1) := by decide +kernel
theorem dJ0_coder_7d493_14 : decode cJ0_coder_7d493 14 = .ok (.ireturn, 1) := by decide +kernel
theorem dJ0_isLatin1_aae02_0 : decode cJ0_isLatin1_aae02 0 = .ok (.getstatic 38, 3) := by decide +kernel
theorem dJ0_isLatin1_aae02_3 : decode cJ0_isLatin1_aae02 3 = .ok (.ifCond .eq 14, 3) := by decide +kernel
theorem dJ0_isLatin1_aae02_6 : decode cJ0_isLatin1_aae02 6 = .ok (.aload_n 0, 1) := by decide +kernel
theorem dJ0_isLatin1_aae02_7 : decode cJ0_isLatin1_aae02 7 = .ok (.getfield 15, 3) := by decide +kernel
theorem dJ0_isLatin1_aae02_10 : decode cJ0_isLatin1_aae02 10 = .ok (.ifCond .ne 7, 3) := by decide +kernel
theorem dJ0_isLatin1_aae02_13 : decode cJ0_isLatin1_aae02 13 = .ok (.iconst 1, 1) := by decide +kernel
theorem dJ0_isLatin1_aae02_14 : decode cJ0_isLatin1_aae02 14 = .ok (.goto 4, 3) := by decide +kernel
theorem dJ0_isLatin1_aae02_17 : decode cJ0_isLatin1_aae02 17 = .ok (.iconst 0, 1) := by decide +kernel
theorem dJ0_isLatin1_aae02_18 : decode cJ0_isLatin1_aae02 18 = .ok (.ireturn, 1) := by decide +kernel
theorem dJ0_checkIndex_df160_0 : decode cJ0_checkIndex_df160 0 = .ok (.iload_n 0, 1) := by decide +kernel
theorem dJ0_checkIndex_df160_1 : decode cJ0_checkIndex_df160 1 = .ok (.iload_n 1, 1) := by decide +kernel
theorem dJ0_checkIndex_df160_2 : decode cJ0_checkIndex_df160 2 = .ok (.getstatic 1053, 3) := by decide +kernel
theorem dJ0_checkIndex_df160_5 : decode cJ0_checkIndex_df160 5 = .ok (.invokestatic 1059, 3) := by decide +kernel
theorem dJ0_checkIndex_df160_8 : decode cJ0_checkIndex_df160 8 = .ok (.pop, 1) := by decide +kernel
theorem dJ0_checkIndex_df160_9 : decode cJ0_checkIndex_df160 9 = .ok (.return_, 1) := by decide +kernel
theorem dJ0_checkBoundsBeginEnd_23922_0 : decode cJ0_checkBoundsBeginEnd_23922 0 = .ok (.iload_n 0, 1) := by decide +kernel
theorem dJ0_checkBoundsBeginEnd_23922_1 : decode cJ0_checkBoundsBeginEnd_23922 1 = .ok (.iload_n 1, 1) := by decide +kernel
theorem dJ0_checkBoundsBeginEnd_23922_2 : decode cJ0_checkBoundsBeginEnd_23922 2 = .ok (.iload_n 2, 1) := by decide +kernel
theorem dJ0_checkBoundsBeginEnd_23922_3 : decode cJ0_checkBoundsBeginEnd_23922 3 = .ok (.getstatic 1053, 3) := by decide +kernel
theorem dJ0_checkBoundsBeginEnd_23922_6 : decode cJ0_checkBoundsBeginEnd_23922 6 = .ok (.invokestatic 1062, 3) := by decide +kernel
theorem dJ0_checkBoundsBeginEnd_23922_9 : decode cJ0_checkBoundsBeginEnd_23922 9 = .ok (.pop, 1) := by decide +kernel
theorem dJ0_checkBoundsBeginEnd_23922_10 : decode cJ0_checkBoundsBeginEnd_23922 10 = .ok (.return_, 1) := by decide +kernel
theorem dJ1_charAt_3b067_0 : decode cJ1_charAt_3b067 0 = .ok (.iload_n 1, 1) := by decide +kernel
theorem dJ1_charAt_3b067_1 : decode cJ1_charAt_3b067 1 = .ok (.aload_n 0, 1) := by decide +kernel
theorem dJ1_charAt_3b067_2 : decode cJ1_charAt_3b067 2 = .ok (.arraylength, 1) := by decide +kernel
theorem dJ1_charAt_3b067_3 : decode cJ1_charAt_3b067 3 = .ok (.invokestatic 9, 3) := by decide +kernel
theorem dJ1_charAt_3b067_6 : decode cJ1_charAt_3b067 6 = .ok (.aload_n 0, 1) := by decide +kernel
theorem dJ1_charAt_3b067_7 : decode cJ1_charAt_3b067 7 = .ok (.iload_n 1, 1) := by decide +kernel
theorem dJ1_charAt_3b067_8 : decode cJ1_charAt_3b067 8 = .ok (.baload, 1) := by decide +kernel
theorem dJ1_charAt_3b067_9 : decode cJ1_charAt_3b067 9 = .ok (.sipush 255, 3) := by decide +kernel
theorem dJ1_charAt_3b067_12 : decode cJ1_charAt_3b067 12 = .ok (.iand, 1) := by decide +kernel
theorem dJ1_charAt_3b067_13 : decode cJ1_charAt_3b067 13 = .ok (.i2c, 1) := by decide +kernel
theorem dJ1_charAt_3b067_14 : decode cJ1_charAt_3b067 14 = .ok (.ireturn, 1) := by decide +kernel
theorem dJ1_canEncode_9a6ad_0 : decode cJ1_canEncode_9a6ad 0 = .ok (.iload_n 0, 1) := by decide +kernel
theorem dJ1_canEncode_9a6ad_1 : decode cJ1_canEncode_9a6ad 1 = .ok (.ifCond .lt 14, 3) := by decide +kernel
theorem dJ1_canEncode_9a6ad_4 : decode cJ1_canEncode_9a6ad 4 = .ok (.iload_n 0, 1) := by decide +kernel
theorem dJ1_canEncode_9a6ad_5 : decode cJ1_canEncode_9a6ad 5 = .ok (.sipush 255, 3) := by decide +kernel
theorem dJ1_canEncode_9a6ad_8 : decode cJ1_canEncode_9a6ad 8 = .ok (.if_icmp .gt 7, 3) := by decide +kernel
theorem dJ1_canEncode_9a6ad_11 : decode cJ1_canEncode_9a6ad 11 = .ok (.iconst 1, 1) := by decide +kernel
theorem dJ1_canEncode_9a6ad_12 : decode cJ1_canEncode_9a6ad 12 = .ok (.goto 4, 3) := by decide +kernel
theorem dJ1_canEncode_9a6ad_15 : decode cJ1_canEncode_9a6ad 15 = .ok (.iconst 0, 1) := by decide +kernel
theorem dJ1_canEncode_9a6ad_16 : decode cJ1_canEncode_9a6ad 16 = .ok (.ireturn, 1) := by decide +kernel
theorem dJ1_indexOf_4cfef_0 : decode cJ1_indexOf_4cfef 0 = .ok (.iload_n 1, 1) := by decide +kernel
theorem dJ1_indexOf_4cfef_1 : decode cJ1_indexOf_4cfef 1 = .ok (.invokestatic 88, 3) := by decide +kernel
theorem dJ1_indexOf_4cfef_4 : decode cJ1_indexOf_4cfef 4 = .ok (.ifCond .ne 5, 3) := by decide +kernel
theorem dJ1_indexOf_4cfef_7 : decode cJ1_indexOf_4cfef 7 = .ok (.iconst (-1), 1) := by decide +kernel
theorem dJ1_indexOf_4cfef_8 : decode cJ1_indexOf_4cfef 8 = .ok (.ireturn, 1) := by decide +kernel
theorem dJ1_indexOf_4cfef_9 : decode cJ1_indexOf_4cfef 9 = .ok (.iload_n 2, 1) := by decide +kernel
theorem dJ1_indexOf_4cfef_10 : decode cJ1_indexOf_4cfef 10 = .ok (.iconst 0, 1) := by decide +kernel
theorem dJ1_indexOf_4cfef_11 : decode cJ1_indexOf_4cfef 11 = .ok (.invokestatic 92, 3) := by decide +kernel
theorem dJ1_indexOf_4cfef_14 : decode cJ1_indexOf_4cfef 14 = .ok (.istore_n 2, 1) := by decide +kernel
theorem dJ1_indexOf_4cfef_15 : decode cJ1_indexOf_4cfef 15 = .ok (.iload_n 3, 1) := by decide +kernel
theorem dJ1_indexOf_4cfef_16 : decode cJ1_indexOf_4cfef 16 = .ok (.aload_n 0, 1) := by decide +kernel
theorem dJ1_indexOf_4cfef_17 : decode cJ1_indexOf_4cfef 17 = .ok (.arraylength, 1) := by decide +kernel
theorem dJ1_indexOf_4cfef_18 : decode cJ1_indexOf_4cfef 18 = .ok (.invokestatic 38, 3) := by decide +kernel
theorem dJ1_indexOf_4cfef_21 : decode cJ1_indexOf_4cfef 21 = .ok (.istore_n 3, 1) := by decide +kernel
theorem dJ1_indexOf_4cfef_22 : decode cJ1_indexOf_4cfef 22 = .ok (.iload_n 2, 1) := by decide +kernel
theorem dJ1_indexOf_4cfef_23 : decode cJ1_indexOf_4cfef 23 = .ok (.iload_n 3, 1) := by decide +kernel
theorem dJ1_indexOf_4cfef_24 : decode cJ1_indexOf_4cfef 24 = .ok (.if_icmp .lt 5, 3) := by decide +kernel
theorem dJ1_indexOf_4cfef_27 : decode cJ1_indexOf_4cfef 27 = .ok (.iconst (-1), 1) := by decide +kernel
theorem dJ1_indexOf_4cfef_28 : decode cJ1_indexOf_4cfef 28 = .ok (.ireturn, 1) := by decide +kernel
theorem dJ1_indexOf_4cfef_29 : decode cJ1_indexOf_4cfef 29 = .ok (.aload_n 0, 1) := by decide +kernel
theorem dJ1_indexOf_4cfef_30 : decode cJ1_indexOf_4cfef 30 = .ok (.iload_n 1, 1) := by decide +kernel
theorem dJ1_indexOf_4cfef_31 : decode cJ1_indexOf_4cfef 31 = .ok (.iload_n 2, 1) := by decide +kernel
theorem dJ1_indexOf_4cfef_32 : decode cJ1_indexOf_4cfef 32 = .ok (.iload_n 3, 1) := by decide +kernel
theorem dJ1_indexOf_4cfef_33 : decode cJ1_indexOf_4cfef 33 = .ok (.invokestatic 95, 3) := by decide +kernel
theorem dJ1_indexOf_4cfef_36 : decode cJ1_indexOf_4cfef 36 = .ok (.ireturn, 1) := by decide +kernel
theorem dJ1_indexOfChar_4cfef_0 : decode cJ1_indexOfChar_4cfef 0 = .ok (.iload_n 1, 1) := by decide +kernel
theorem dJ1_indexOfChar_4cfef_1 : decode cJ1_indexOfChar_4cfef 1 = .ok (.i2b, 1) := by decide +kernel
theorem dJ1_indexOfChar_4cfef_2 : decode cJ1_indexOfChar_4cfef 2 = .ok (.istore 4, 2) := by decide +kernel
theorem dJ1_indexOfChar_4cfef_4 : decode cJ1_indexOfChar_4cfef 4 = .ok (.iload_n 2, 1) := by decide +kernel
theorem dJ1_indexOfChar_4cfef_5 : decode cJ1_indexOfChar_4cfef 5 = .ok (.istore 5, 2) := by decide +kernel
theorem dJ1_indexOfChar_4cfef_7 : decode cJ1_indexOfChar_4cfef 7 = .ok (.iload 5, 2) := by decide +kernel
theorem dJ1_indexOfChar_4cfef_9 : decode cJ1_indexOfChar_4cfef 9 = .ok (.iload_n 3, 1) := by decide +kernel
theorem dJ1_indexOfChar_4cfef_10 : decode cJ1_indexOfChar_4cfef 10 = .ok (.if_icmp .ge 21, 3) := by decide +kernel
theorem dJ1_indexOfChar_4cfef_13 : decode cJ1_indexOfChar_4cfef 13 = .ok (.aload_n 0, 1) := by decide +kernel
theorem dJ1_indexOfChar_4cfef_14 : decode cJ1_indexOfChar_4cfef 14 = .ok (.iload 5, 2) := by decide +kernel
theorem dJ1_indexOfChar_4cfef_16 : decode cJ1_indexOfChar_4cfef 16 = .ok (.baload, 1) := by decide +kernel
theorem dJ1_indexOfChar_4cfef_17 : decode cJ1_indexOfChar_4cfef 17 = .ok (.iload 4, 2) := by decide +kernel
theorem dJ1_indexOfChar_4cfef_19 : decode cJ1_indexOfChar_4cfef 19 = .ok (.if_icmp .ne 6, 3) := by decide +kernel
theorem dJ1_indexOfChar_4cfef_22 : decode cJ1_indexOfChar_4cfef 22 = .ok (.iload 5, 2) := by decide +kernel
theorem dJ1_indexOfChar_4cfef_24 : decode cJ1_indexOfChar_4cfef 24 = .ok (.ireturn, 1) := by decide +kernel
theorem dJ1_indexOfChar_4cfef_25 : decode cJ1_indexOfChar_4cfef 25 = .ok (.iinc 5 1, 3) := by decide +kernel
theorem dJ1_indexOfChar_4cfef_28 : decode cJ1_indexOfChar_4cfef 28 = .ok (.goto (-21), 3) := by decide +kernel
theorem dJ1_indexOfChar_4cfef_31 : decode cJ1_indexOfChar_4cfef 31 = .ok (.iconst (-1), 1) := by decide +kernel
theorem dJ1_indexOfChar_4cfef_32 : decode cJ1_indexOfChar_4cfef 32 = .ok (.ireturn, 1) := by decide +kernel
theorem dJ2_getChar_3b067_0 : decode cJ2_getChar_3b067 0 = .ok (.getstatic 44, 3) := by decide +kernel
theorem dJ2_getChar_3b067_3 : decode cJ2_getChar_3b067 3 = .ok (.ifCond .ne 25, 3) := by decide +kernel
theorem dJ2_getChar_3b067_6 : decode cJ2_getChar_3b067 6 = .ok (.iload_n 1, 1) := by decide +kernel
theorem dJ2_getChar_3b067_7 : decode cJ2_getChar_3b067 7 = .ok (.ifCond .lt 11, 3) := by decide +kernel
theorem dJ2_getChar_3b067_10 : decode cJ2_getChar_3b067 10 = .ok (.iload_n 1, 1) := by decide +kernel
theorem dJ2_getChar_3b067_11 : decode cJ2_getChar_3b067 11 = .ok (.aload_n 0, 1) := by decide +kernel
theorem dJ2_getChar_3b067_12 : decode cJ2_getChar_3b067 12 = .ok (.invokestatic 48, 3) := by decide +kernel
theorem dJ2_getChar_3b067_15 : decode cJ2_getChar_3b067 15 = .ok (.if_icmp .lt 13, 3) := by decide +kernel
theorem dJ2_getChar_3b067_18 : decode cJ2_getChar_3b067 18 = .ok (.new 52, 3) := by decide +kernel
theorem dJ2_getChar_3b067_21 : decode cJ2_getChar_3b067 21 = .ok (.dup, 1) := by decide +kernel
theorem dJ2_getChar_3b067_22 : decode cJ2_getChar_3b067 22 = .ok (.ldc 54, 2) := by decide +kernel
theorem dJ2_getChar_3b067_24 : decode cJ2_getChar_3b067 24 = .ok (.invokespecial 56, 3) := by decide +kernel
theorem dJ2_getChar_3b067_27 : decode cJ2_getChar_3b067 27 = .ok (.athrow, 1) := by decide +kernel
theorem dJ2_getChar_3b067_28 : decode cJ2_getChar_3b067 28 = .ok (.iload_n 1, 1) := by decide +kernel
theorem dJ2_getChar_3b067_29 : decode cJ2_getChar_3b067 29 = .ok (.iconst 1, 1) := by decide +kernel
theorem dJ2_getChar_3b067_30 : decode cJ2_getChar_3b067 30 = .ok (.ishl, 1) := by decide +kernel
theorem dJ2_getChar_3b067_31 : decode cJ2_getChar_3b067 31 = .ok (.istore_n 1, 1) := by decide +kernel
theorem dJ2_getChar_3b067_32 : decode cJ2_getChar_3b067 32 = .ok (.aload_n 0, 1) := by decide +kernel
theorem dJ2_getChar_3b067_33 : decode cJ2_getChar_3b067 33 = .ok (.iload_n 1, 1) := by decide +kernel
theorem dJ2_getChar_3b067_34 : decode cJ2_getChar_3b067 34 = .ok (.iinc 1 1, 3) := by decide +kernel
theorem dJ2_getChar_3b067_37 : decode cJ2_getChar_3b067 37 = .ok (.baload, 1) := by decide +kernel
theorem dJ2_getChar_3b067_38 : decode cJ2_getChar_3b067 38 = .ok (.sipush 255, 3) := by decide +kernel
theorem dJ2_getChar_3b067_41 : decode cJ2_getChar_3b067 41 = .ok (.iand, 1) := by decide +kernel
theorem dJ2_getChar_3b067_42 : decode cJ2_getChar_3b067 42 = .ok (.getstatic 59, 3) := by decide +kernel
theorem dJ2_getChar_3b067_45 : decode cJ2_getChar_3b067 45 = .ok (.ishl, 1) := by decide +kernel
theorem dJ2_getChar_3b067_46 : decode cJ2_getChar_3b067 46 = .ok (.aload_n 0, 1) := by decide +kernel
theorem dJ2_getChar_3b067_47 : decode cJ2_getChar_3b067 47 = .ok (.iload_n 1, 1) := by decide +kernel
theorem dJ2_getChar_3b067_48 : decode cJ2_getChar_3b067 48 = .ok (.baload, 1) := by decide +kernel
theorem dJ2_getChar_3b067_49 : decode cJ2_getChar_3b067 49 = .ok (.sipush 255, 3) := by decide +kernel
theorem dJ2_getChar_3b067_52 : decode cJ2_getChar_3b067 52 = .ok (.iand, 1) := by decide +kernel
theorem dJ2_getChar_3b067_53 : decode cJ2_getChar_3b067 53 = .ok (.getstatic 63, 3) := by decide +kernel
theorem dJ2_getChar_3b067_56 : decode cJ2_getChar_3b067 56 = .ok (.ishl, 1) := by decide +kernel
theorem dJ2_getChar_3b067_57 : decode cJ2_getChar_3b067 57 = .ok (.ior, 1) := by decide +kernel
theorem dJ2_getChar_3b067_58 : decode cJ2_getChar_3b067 58 = .ok (.i2c, 1) := by decide +kernel
theorem dJ2_getChar_3b067_59 : decode cJ2_getChar_3b067 59 = .ok (.ireturn, 1) := by decide +kernel
theorem dJ2_length_9d52b_0 : decode cJ2_length_9d52b 0 = .ok (.aload_n 0, 1) := by decide +kernel
theorem dJ2_length_9d52b_1 : decode cJ2_length_9d52b 1 = .ok (.arraylength, 1) := by decide +kernel
theorem dJ2_length_9d52b_2 : decode cJ2_length_9d52b 2 = .ok (.iconst 1, 1) := by decide +kernel
theorem dJ2_length_9d52b_3 : decode cJ2_length_9d52b 3 = .ok (.ishr, 1) := by decide +kernel
theorem dJ2_length_9d52b_4 : decode cJ2_length_9d52b 4 = .ok (.ireturn, 1) := by decide +kernel
theorem dJ2_indexOf_4cfef_0 : decode cJ2_indexOf_4cfef 0 = .ok (.iload_n 2, 1) := by decide +kernel
theorem dJ2_indexOf_4cfef_1 : decode cJ2_indexOf_4cfef 1 = .ok (.iconst 0, 1) := by decide +kernel
theorem dJ2_indexOf_4cfef_2 : decode cJ2_indexOf_4cfef 2 = .ok (.invokestatic 224, 3) := by decide +kernel
theorem dJ2_indexOf_4cfef_5 : decode cJ2_indexOf_4cfef 5 = .ok (.istore_n 2, 1) := by decide +kernel
theorem dJ2_indexOf_4cfef_6 : decode cJ2_indexOf_4cfef 6 = .ok (.iload_n 3, 1) := by decide +kernel
theorem dJ2_indexOf_4cfef_7 : decode cJ2_indexOf_4cfef 7 = .ok (.aload_n 0, 1) := by decide +kernel
theorem dJ2_indexOf_4cfef_8 : decode cJ2_indexOf_4cfef 8 = .ok (.arraylength, 1) := by decide +kernel
theorem dJ2_indexOf_4cfef_9 : decode cJ2_indexOf_4cfef 9 = .ok (.iconst 1, 1) := by decide +kernel
theorem dJ2_indexOf_4cfef_10 : decode cJ2_indexOf_4cfef 10 = .ok (.ishr, 1) := by decide +kernel
theorem dJ2_indexOf_4cfef_11 : decode cJ2_indexOf_4cfef 11 = .ok (.invokestatic 183, 3) := by decide +kernel
theorem dJ2_indexOf_4cfef_14 : decode cJ2_indexOf_4cfef 14 = .ok (.istore_n 3, 1) := by decide +kernel
theorem dJ2_indexOf_4cfef_15 : decode cJ2_indexOf_4cfef 15 = .ok (.iload_n 2, 1) := by decide +kernel
theorem dJ2_indexOf_4cfef_16 : decode cJ2_indexOf_4cfef 16 = .ok (.iload_n 3, 1) := by decide +kernel
theorem dJ2_indexOf_4cfef_17 : decode cJ2_indexOf_4cfef 17 = .ok (.if_icmp .lt 5, 3) := by decide +kernel
theorem dJ2_indexOf_4cfef_20 : decode cJ2_indexOf_4cfef 20 = .ok (.iconst (-1), 1) := by decide +kernel
theorem dJ2_indexOf_4cfef_21 : decode cJ2_indexOf_4cfef 21 = .ok (.ireturn, 1) := by decide +kernel
theorem dJ2_indexOf_4cfef_22 : decode cJ2_indexOf_4cfef 22 = .ok (.iload_n 1, 1) := by decide +kernel
theorem dJ2_indexOf_4cfef_23 : decode cJ2_indexOf_4cfef 23 = .ok (.ldc 227, 2) := by decide +kernel
theorem dJ2_indexOf_4cfef_25 : decode cJ2_indexOf_4cfef 25 = .ok (.if_icmp .ge 11, 3) := by decide +kernel
theorem dJ2_indexOf_4cfef_28 : decode cJ2_indexOf_4cfef 28 = .ok (.aload_n 0, 1) := by decide +kernel
theorem dJ2_indexOf_4cfef_29 : decode cJ2_indexOf_4cfef 29 = .ok (.iload_n 1, 1) := by decide +kernel
theorem dJ2_indexOf_4cfef_30 : decode cJ2_indexOf_4cfef 30 = .ok (.iload_n 2, 1) := by decide +kernel
theorem dJ2_indexOf_4cfef_31 : decode cJ2_indexOf_4cfef 31 = .ok (.iload_n 3, 1) := by decide +kernel
theorem dJ2_indexOf_4cfef_32 : decode cJ2_indexOf_4cfef 32 = .ok (.invokestatic 228, 3) := by decide +kernel
theorem dJ2_indexOf_4cfef_35 : decode cJ2_indexOf_4cfef 35 = .ok (.ireturn, 1) := by decide +kernel
theorem dJ2_indexOf_4cfef_36 : decode cJ2_indexOf_4cfef 36 = .ok (.aload_n 0, 1) := by decide +kernel
theorem dJ2_indexOf_4cfef_37 : decode cJ2_indexOf_4cfef 37 = .ok (.iload_n 1, 1) := by decide +kernel
theorem dJ2_indexOf_4cfef_38 : decode cJ2_indexOf_4cfef 38 = .ok (.iload_n 2, 1) := by decide +kernel
theorem dJ2_indexOf_4cfef_39 : decode cJ2_indexOf_4cfef 39 = .ok (.iload_n 3, 1) := by decide +kernel
theorem dJ2_indexOf_4cfef_40 : decode cJ2_indexOf_4cfef 40 = .ok (.invokestatic 232, 3) := by decide +kernel
theorem dJ2_indexOf_4cfef_43 : decode cJ2_indexOf_4cfef 43 = .ok (.ireturn, 1) := by decide +kernel
theorem dJ2_indexOfChar_4cfef_0 : decode cJ2_indexOfChar_4cfef 0 = .ok (.iload_n 2, 1) := by decide +kernel
theorem dJ2_indexOfChar_4cfef_1 : decode cJ2_indexOfChar_4cfef 1 = .ok (.iload_n 3, 1) := by decide +kernel
theorem dJ2_indexOfChar_4cfef_2 : decode cJ2_indexOfChar_4cfef 2 = .ok (.aload_n 0, 1) := by decide +kernel
theorem dJ2_indexOfChar_4cfef_3 : decode cJ2_indexOfChar_4cfef 3 = .ok (.invokestatic 96, 3) := by decide +kernel
theorem dJ2_indexOfChar_4cfef_6 : decode cJ2_indexOfChar_4cfef 6 = .ok (.aload_n 0, 1) := by decide +kernel
theorem dJ2_indexOfChar_4cfef_7 : decode cJ2_indexOfChar_4cfef 7 = .ok (.iload_n 1, 1) := by decide +kernel
theorem dJ2_indexOfChar_4cfef_8 : decode cJ2_indexOfChar_4cfef 8 = .ok (.iload_n 2, 1) := by decide +kernel
theorem dJ2_indexOfChar_4cfef_9 : decode cJ2_indexOfChar_4cfef 9 = .ok (.iload_n 3, 1) := by decide +kernel
theorem dJ2_indexOfChar_4cfef_10 : decode cJ2_indexOfChar_4cfef 10 = .ok (.invokestatic 244, 3) := by decide +kernel
theorem dJ2_indexOfChar_4cfef_13 : decode cJ2_indexOfChar_4cfef 13 = .ok (.ireturn, 1) := by decide +kernel
theorem dJ2_indexOfCharUnsafe_4cfef_0 : decode cJ2_indexOfCharUnsafe_4cfef 0 = .ok (.iload_n 2, 1) := by decide +kernel
theorem dJ2_indexOfCharUnsafe_4cfef_1 : decode cJ2_indexOfCharUnsafe_4cfef 1 = .ok (.istore 4, 2) := by decide +kernel
theorem dJ2_indexOfCharUnsafe_4cfef_3 : decode cJ2_indexOfCharUnsafe_4cfef 3 = .ok (.iload 4, 2) := by decide +kernel
theorem dJ2_indexOfCharUnsafe_4cfef_5 : decode cJ2_indexOfCharUnsafe_4cfef 5 = .ok (.iload_n 3, 1) := by decide +kernel
theorem dJ2_indexOfCharUnsafe_4cfef_6 : decode cJ2_indexOfCharUnsafe_4cfef 6 = .ok (.if_icmp .ge 22, 3) := by decide +kernel
theorem dJ2_indexOfCharUnsafe_4cfef_9 : decode cJ2_indexOfCharUnsafe_4cfef 9 = .ok (.aload_n 0, 1) := by decide +kernel
theorem dJ2_indexOfCharUnsafe_4cfef_10 : decode cJ2_indexOfCharUnsafe_4cfef 10 = .ok (.iload 4, 2) := by decide +kernel
theorem dJ2_indexOfCharUnsafe_4cfef_12 : decode cJ2_indexOfCharUnsafe_4cfef 12 = .ok (.invokestatic 71, 3) := by decide +kernel
theorem dJ2_indexOfCharUnsafe_4cfef_15 : decode cJ2_indexOfCharUnsafe_4cfef 15 = .ok (.iload_n 1, 1) := by decide +kernel
theorem dJ2_indexOfCharUnsafe_4cfef_16 : decode cJ2_indexOfCharUnsafe_4cfef 16 = .ok (.if_icmp .ne 6, 3) := by decide +kernel
theorem dJ2_indexOfCharUnsafe_4cfef_19 : decode cJ2_indexOfCharUnsafe_4cfef 19 = .ok (.iload 4, 2) := by decide +kernel
theorem dJ2_indexOfCharUnsafe_4cfef_21 : decode cJ2_indexOfCharUnsafe_4cfef 21 = .ok (.ireturn, 1) := by decide +kernel
theorem dJ2_indexOfCharUnsafe_4cfef_22 : decode cJ2_indexOfCharUnsafe_4cfef 22 = .ok (.iinc 4 1, 3) := by decide +kernel
theorem dJ2_indexOfCharUnsafe_4cfef_25 : decode cJ2_indexOfCharUnsafe_4cfef 25 = .ok (.goto (-22), 3) := by decide +kernel
theorem dJ2_indexOfCharUnsafe_4cfef_28 : decode cJ2_indexOfCharUnsafe_4cfef 28 = .ok (.iconst (-1), 1) := by decide +kernel
theorem dJ2_indexOfCharUnsafe_4cfef_29 : decode cJ2_indexOfCharUnsafe_4cfef 29 = .ok (.ireturn, 1) := by decide +kernel
theorem dJ2_indexOfSupplementary_4cfef_0 : decode cJ2_indexOfSupplementary_4cfef 0 = .ok (.iload_n 1, 1) := by decide +kernel
theorem dJ2_indexOfSupplementary_4cfef_1 : decode cJ2_indexOfSupplementary_4cfef 1 = .ok (.invokestatic 164, 3) := by decide +kernel
theorem dJ2_indexOfSupplementary_4cfef_4 : decode cJ2_indexOfSupplementary_4cfef 4 = .ok (.ifCond .eq 65, 3) := by decide +kernel
theorem dJ2_indexOfSupplementary_4cfef_7 : decode cJ2_indexOfSupplementary_4cfef 7 = .ok (.iload_n 1, 1) := by decide +kernel
theorem dJ2_indexOfSupplementary_4cfef_8 : decode cJ2_indexOfSupplementary_4cfef 8 = .ok (.invokestatic 157, 3) := by decide +kernel
theorem dJ2_indexOfSupplementary_4cfef_11 : decode cJ2_indexOfSupplementary_4cfef 11 = .ok (.istore 4, 2) := by decide +kernel
theorem dJ2_indexOfSupplementary_4cfef_13 : decode cJ2_indexOfSupplementary_4cfef 13 = .ok (.iload_n 1, 1) := by decide +kernel
theorem dJ2_indexOfSupplementary_4cfef_14 : decode cJ2_indexOfSupplementary_4cfef 14 = .ok (.invokestatic 161, 3) := by decide +kernel
theorem dJ2_indexOfSupplementary_4cfef_17 : decode cJ2_indexOfSupplementary_4cfef 17 = .ok (.istore 5, 2) := by decide +kernel
theorem dJ2_indexOfSupplementary_4cfef_19 : decode cJ2_indexOfSupplementary_4cfef 19 = .ok (.iload_n 2, 1) := by decide +kernel
theorem dJ2_indexOfSupplementary_4cfef_20 : decode cJ2_indexOfSupplementary_4cfef 20 = .ok (.iload_n 3, 1) := by decide +kernel
theorem dJ2_indexOfSupplementary_4cfef_21 : decode cJ2_indexOfSupplementary_4cfef 21 = .ok (.aload_n 0, 1) := by decide +kernel
theorem dJ2_indexOfSupplementary_4cfef_22 : decode cJ2_indexOfSupplementary_4cfef 22 = .ok (.invokestatic 96, 3) := by decide +kernel
theorem dJ2_indexOfSupplementary_4cfef_25 : decode cJ2_indexOfSupplementary_4cfef 25 = .ok (.iload_n 2, 1) := by decide +kernel
theorem dJ2_indexOfSupplementary_4cfef_26 : decode cJ2_indexOfSupplementary_4cfef 26 = .ok (.istore 6, 2) := by decide +kernel
theorem dJ2_indexOfSupplementary_4cfef_28 : decode cJ2_indexOfSupplementary_4cfef 28 = .ok (.iload 6, 2) := by decide +kernel
theorem dJ2_indexOfSupplementary_4cfef_30 : decode cJ2_indexOfSupplementary_4cfef 30 = .ok (.iload_n 3, 1) := by decide +kernel
theorem dJ2_indexOfSupplementary_4cfef_31 : decode cJ2_indexOfSupplementary_4cfef 31 = .ok (.iconst 1, 1) := by decide +kernel
theorem dJ2_indexOfSupplementary_4cfef_32 : decode cJ2_indexOfSupplementary_4cfef 32 = .ok (.isub, 1) := by decide +kernel
theorem dJ2_indexOfSupplementary_4cfef_33 : decode cJ2_indexOfSupplementary_4cfef 33 = .ok (.if_icmp .ge 36, 3) := by decide +kernel
theorem dJ2_indexOfSupplementary_4cfef_36 : decode cJ2_indexOfSupplementary_4cfef 36 = .ok (.aload_n 0, 1) := by decide +kernel
theorem dJ2_indexOfSupplementary_4cfef_37 : decode cJ2_indexOfSupplementary_4cfef 37 = .ok (.iload 6, 2) := by decide +kernel
theorem dJ2_indexOfSupplementary_4cfef_39 : decode cJ2_indexOfSupplementary_4cfef 39 = .ok (.invokestatic 71, 3) := by decide +kernel
theorem dJ2_indexOfSupplementary_4cfef_42 : decode cJ2_indexOfSupplementary_4cfef 42 = .ok (.iload 4, 2) := by decide +kernel
theorem dJ2_indexOfSupplementary_4cfef_44 : decode cJ2_indexOfSupplementary_4cfef 44 = .ok (.if_icmp .ne 19, 3) := by decide +kernel
theorem dJ2_indexOfSupplementary_4cfef_47 : decode cJ2_indexOfSupplementary_4cfef 47 = .ok (.aload_n 0, 1) := by decide +kernel
theorem dJ2_indexOfSupplementary_4cfef_48 : decode cJ2_indexOfSupplementary_4cfef 48 = .ok (.iload 6, 2) := by decide +kernel
theorem dJ2_indexOfSupplementary_4cfef_50 : decode cJ2_indexOfSupplementary_4cfef 50 = .ok (.iconst 1, 1) := by decide +kernel
theorem dJ2_indexOfSupplementary_4cfef_51 : decode cJ2_indexOfSupplementary_4cfef 51 = .ok (.iadd, 1) := by decide +kernel
theorem dJ2_indexOfSupplementary_4cfef_52 : decode cJ2_indexOfSupplementary_4cfef 52 = .ok (.invokestatic 71, 3) := by decide +kernel
theorem dJ2_indexOfSupplementary_4cfef_55 : decode cJ2_indexOfSupplementary_4cfef 55 = .ok (.iload 5, 2) := by decide +kernel
theorem dJ2_indexOfSupplementary_4cfef_57 : decode cJ2_indexOfSupplementary_4cfef 57 = .ok (.if_icmp .ne 6, 3) := by decide +kernel
theorem dJ2_indexOfSupplementary_4cfef_60 : decode cJ2_indexOfSupplementary_4cfef 60 = .ok (.iload 6, 2) := by decide +kernel
theorem dJ2_indexOfSupplementary_4cfef_62 : decode cJ2_indexOfSupplementary_4cfef 62 = .ok (.ireturn, 1) := by decide +kernel
theorem dJ2_indexOfSupplementary_4cfef_63 : decode cJ2_indexOfSupplementary_4cfef 63 = .ok (.iinc 6 1, 3) := by decide +kernel
theorem dJ2_indexOfSupplementary_4cfef_66 : decode cJ2_indexOfSupplementary_4cfef 66 = .ok (.goto (-38), 3) := by decide +kernel
theorem dJ2_indexOfSupplementary_4cfef_69 : decode cJ2_indexOfSupplementary_4cfef 69 = .ok (.iconst (-1), 1) := by decide +kernel
theorem dJ2_indexOfSupplementary_4cfef_70 : decode cJ2_indexOfSupplementary_4cfef 70 = .ok (.ireturn, 1) := by decide +kernel
theorem dJ2_charAt_3b067_0 : decode cJ2_charAt_3b067 0 = .ok (.iload_n 1, 1) := by decide +kernel
theorem dJ2_charAt_3b067_1 : decode cJ2_charAt_3b067 1 = .ok (.aload_n 0, 1) := by decide +kernel
theorem dJ2_charAt_3b067_2 : decode cJ2_charAt_3b067 2 = .ok (.invokestatic 67, 3) := by decide +kernel
theorem dJ2_charAt_3b067_5 : decode cJ2_charAt_3b067 5 = .ok (.aload_n 0, 1) := by decide +kernel
theorem dJ2_charAt_3b067_6 : decode cJ2_charAt_3b067 6 = .ok (.iload_n 1, 1) := by decide +kernel
theorem dJ2_charAt_3b067_7 : decode cJ2_charAt_3b067 7 = .ok (.invokestatic 71, 3) := by decide +kernel
theorem dJ2_charAt_3b067_10 : decode cJ2_charAt_3b067 10 = .ok (.ireturn, 1) := by decide +kernel
theorem dJ2_checkIndex_2214a_0 : decode cJ2_checkIndex_2214a 0 = .ok (.iload_n 0, 1) := by decide +kernel
theorem dJ2_checkIndex_2214a_1 : decode cJ2_checkIndex_2214a 1 = .ok (.aload_n 1, 1) := by decide +kernel
theorem dJ2_checkIndex_2214a_2 : decode cJ2_checkIndex_2214a 2 = .ok (.invokestatic 48, 3) := by decide +kernel
theorem dJ2_checkIndex_2214a_5 : decode cJ2_checkIndex_2214a 5 = .ok (.invokestatic 414, 3) := by decide +kernel
theorem dJ2_checkIndex_2214a_8 : decode cJ2_checkIndex_2214a 8 = .ok (.return_, 1) := by decide +kernel
theorem dJ2_checkBoundsBeginEnd_d044e_0 : decode cJ2_checkBoundsBeginEnd_d044e 0 = .ok (.iload_n 0, 1) := by decide +kernel
theorem dJ2_checkBoundsBeginEnd_d044e_1 : decode cJ2_checkBoundsBeginEnd_d044e 1 = .ok (.iload_n 1, 1) := by decide +kernel
theorem dJ2_checkBoundsBeginEnd_d044e_2 : decode cJ2_checkBoundsBeginEnd_d044e 2 = .ok (.aload_n 2, 1) := by decide +kernel
theorem dJ2_checkBoundsBeginEnd_d044e_3 : decode cJ2_checkBoundsBeginEnd_d044e 3 = .ok (.invokestatic 48, 3) := by decide +kernel
theorem dJ2_checkBoundsBeginEnd_d044e_6 : decode cJ2_checkBoundsBeginEnd_d044e 6 = .ok (.invokestatic 241, 3) := by decide +kernel
theorem dJ2_checkBoundsBeginEnd_d044e_9 : decode cJ2_checkBoundsBeginEnd_d044e 9 = .ok (.return_, 1) := by decide +kernel
theorem dJ7_fill_d0a16_0 : decode cJ7_fill_d0a16 0 = .ok (.iconst 0, 1) := by decide +kernel
theorem dJ7_fill_d0a16_1 : decode cJ7_fill_d0a16 1 = .ok (.istore_n 3, 1) := by decide +kernel
theorem dJ7_fill_d0a16_2 : decode cJ7_fill_d0a16 2 = .ok (.aload_n 0, 1) := by decide +kernel
theorem dJ7_fill_d0a16_3 : decode cJ7_fill_d0a16 3 = .ok (.arraylength, 1) := by decide +kernel
theorem dJ7_fill_d0a16_4 : decode cJ7_fill_d0a16 4 = .ok (.istore 4, 2) := by decide +kernel
theorem dJ7_fill_d0a16_6 : decode cJ7_fill_d0a16 6 = .ok (.iload_n 3, 1) := by decide +kernel
theorem dJ7_fill_d0a16_7 : decode cJ7_fill_d0a16 7 = .ok (.iload 4, 2) := by decide +kernel
theorem dJ7_fill_d0a16_9 : decode cJ7_fill_d0a16 9 = .ok (.if_icmp .ge 13, 3) := by decide +kernel
theorem dJ7_fill_d0a16_12 : decode cJ7_fill_d0a16 12 = .ok (.aload_n 0, 1) := by decide +kernel
theorem dJ7_fill_d0a16_13 : decode cJ7_fill_d0a16 13 = .ok (.iload_n 3, 1) := by decide +kernel
theorem dJ7_fill_d0a16_14 : decode cJ7_fill_d0a16 14 = .ok (.lload_n 1, 1) := by decide +kernel
theorem dJ7_fill_d0a16_15 : decode cJ7_fill_d0a16 15 = .ok (.lastore, 1) := by decide +kernel
theorem dJ7_fill_d0a16_16 : decode cJ7_fill_d0a16 16 = .ok (.iinc 3 1, 3) := by decide +kernel
theorem dJ7_fill_d0a16_19 : decode cJ7_fill_d0a16 19 = .ok (.goto (-13), 3) := by decide +kernel
theorem dJ7_fill_d0a16_22 : decode cJ7_fill_d0a16 22 = .ok (.return_, 1) := by decide +kernel
theorem dJ7_fill_53178_0 : decode cJ7_fill_53178 0 = .ok (.iconst 0, 1) := by decide +kernel
theorem dJ7_fill_53178_1 : decode cJ7_fill_53178 1 = .ok (.istore_n 2, 1) := by decide +kernel
theorem dJ7_fill_53178_2 : decode cJ7_fill_53178 2 = .ok (.aload_n 0, 1) := by decide +kernel
theorem dJ7_fill_53178_3 : decode cJ7_fill_53178 3 = .ok (.arraylength, 1) := by decide +kernel
theorem dJ7_fill_53178_4 : decode cJ7_fill_53178 4 = .ok (.istore_n 3, 1) := by decide +kernel
theorem dJ7_fill_53178_5 : decode cJ7_fill_53178 5 = .ok (.iload_n 2, 1) := by decide +kernel
theorem dJ7_fill_53178_6 : decode cJ7_fill_53178 6 = .ok (.iload_n 3, 1) := by decide +kernel
theorem dJ7_fill_53178_7 : decode cJ7_fill_53178 7 = .ok (.if_icmp .ge 13, 3) := by decide +kernel
theorem dJ7_fill_53178_10 : decode cJ7_fill_53178 10 = .ok (.aload_n 0, 1) := by decide +kernel
theorem dJ7_fill_53178_11 : decode cJ7_fill_53178 11 = .ok (.iload_n 2, 1) := by decide +kernel
theorem dJ7_fill_53178_12 : decode cJ7_fill_53178 12 = .ok (.iload_n 1, 1) := by decide +kernel
theorem dJ7_fill_53178_13 : decode cJ7_fill_53178 13 = .ok (.iastore, 1) := by decide +kernel
theorem dJ7_fill_53178_14 : decode cJ7_fill_53178 14 = .ok (.iinc 2 1, 3) := by decide +kernel
theorem dJ7_fill_53178_17 : decode cJ7_fill_53178 17 = .ok (.goto (-12), 3) := by decide +kernel
theorem dJ7_fill_53178_20 : decode cJ7_fill_53178 20 = .ok (.return_, 1) := by decide +kernel
theorem dJ3_checkIndex_8e157_0 : decode cJ3_checkIndex_8e157 0 = .ok (.iload_n 0, 1) := by decide +kernel
theorem dJ3_checkIndex_8e157_1 : decode cJ3_checkIndex_8e157 1 = .ok (.ifCond .lt 8, 3) := by decide +kernel
theorem dJ3_checkIndex_8e157_4 : decode cJ3_checkIndex_8e157 4 = .ok (.iload_n 0, 1) := by decide +kernel
theorem dJ3_checkIndex_8e157_5 : decode cJ3_checkIndex_8e157 5 = .ok (.iload_n 1, 1) := by decide +kernel
theorem dJ3_checkIndex_8e157_6 : decode cJ3_checkIndex_8e157 6 = .ok (.if_icmp .lt 10, 3) := by decide +kernel
theorem dJ3_checkIndex_8e157_9 : decode cJ3_checkIndex_8e157 9 = .ok (.aload_n 2, 1) := by decide +kernel
theorem dJ3_checkIndex_8e157_10 : decode cJ3_checkIndex_8e157 10 = .ok (.iload_n 0, 1) := by decide +kernel
theorem dJ3_checkIndex_8e157_11 : decode cJ3_checkIndex_8e157 11 = .ok (.iload_n 1, 1) := by decide +kernel
theorem dJ3_checkIndex_8e157_12 : decode cJ3_checkIndex_8e157 12 = .ok (.invokestatic 95, 3) := by decide +kernel
theorem dJ3_checkIndex_8e157_15 : decode cJ3_checkIndex_8e157 15 = .ok (.athrow, 1) := by decide +kernel
theorem dJ3_checkIndex_8e157_16 : decode cJ3_checkIndex_8e157 16 = .ok (.iload_n 0, 1) := by decide +kernel
theorem dJ3_checkIndex_8e157_17 : decode cJ3_checkIndex_8e157 17 = .ok (.ireturn, 1) := by decide +kernel
theorem dJ3_checkFromToIndex_8c36e_0 : decode cJ3_checkFromToIndex_8c36e 0 = .ok (.iload_n 0, 1) := by decide +kernel
theorem dJ3_checkFromToIndex_8c36e_1 : decode cJ3_checkFromToIndex_8c36e 1 = .ok (.ifCond .lt 13, 3) := by decide +kernel
theorem dJ3_checkFromToIndex_8c36e_4 : decode cJ3_checkFromToIndex_8c36e 4 = .ok (.iload_n 0, 1) := by decide +kernel
theorem dJ3_checkFromToIndex_8c36e_5 : decode cJ3_checkFromToIndex_8c36e 5 = .ok (.iload_n 1, 1) := by decide +kernel
theorem dJ3_checkFromToIndex_8c36e_6 : decode cJ3_checkFromToIndex_8c36e 6 = .ok (.if_icmp .gt 8, 3) := by decide +kernel
theorem dJ3_checkFromToIndex_8c36e_9 : decode cJ3_checkFromToIndex_8c36e 9 = .ok (.iload_n 1, 1) := by decide +kernel
theorem dJ3_checkFromToIndex_8c36e_10 : decode cJ3_checkFromToIndex_8c36e 10 = .ok (.iload_n 2, 1) := by decide +kernel
theorem dJ3_checkFromToIndex_8c36e_11 : decode cJ3_checkFromToIndex_8c36e 11 = .ok (.if_icmp .le 11, 3) := by decide +kernel
theorem dJ3_checkFromToIndex_8c36e_14 : decode cJ3_checkFromToIndex_8c36e 14 = .ok (.aload_n 3, 1) := by decide +kernel
theorem dJ3_checkFromToIndex_8c36e_15 : decode cJ3_checkFromToIndex_8c36e 15 = .ok (.iload_n 0, 1) := by decide +kernel
theorem dJ3_checkFromToIndex_8c36e_16 : decode cJ3_checkFromToIndex_8c36e 16 = .ok (.iload_n 1, 1) := by decide +kernel
theorem dJ3_checkFromToIndex_8c36e_17 : decode cJ3_checkFromToIndex_8c36e 17 = .ok (.iload_n 2, 1) := by decide +kernel
theorem dJ3_checkFromToIndex_8c36e_18 : decode cJ3_checkFromToIndex_8c36e 18 = .ok (.invokestatic 99, 3) := by decide +kernel
theorem dJ3_checkFromToIndex_8c36e_21 : decode cJ3_checkFromToIndex_8c36e 21 = .ok (.athrow, 1) := by decide +kernel
theorem dJ3_checkFromToIndex_8c36e_22 : decode cJ3_checkFromToIndex_8c36e 22 = .ok (.iload_n 0, 1) := by decide +kernel
theorem dJ3_checkFromToIndex_8c36e_23 : decode cJ3_checkFromToIndex_8c36e 23 = .ok (.ireturn, 1) := by decide +kernel
theorem dL_law_0 : decode cL_law 0 = .ok (.new 7, 3) := by decide +kernel
theorem dL_law_3 : decode cL_law 3 = .ok (.dup, 1) := by decide +kernel
theorem dL_law_4 : decode cL_law 4 = .ok (.invokespecial 9, 3) := by decide +kernel
theorem dL_law_7 : decode cL_law 7 = .ok (.astore_n 1, 1) := by decide +kernel
theorem dL_law_8 : decode cL_law 8 = .ok (.new 10, 3) := by decide +kernel
theorem dL_law_11 : decode cL_law 11 = .ok (.dup, 1) := by decide +kernel
theorem dL_law_12 : decode cL_law 12 = .ok (.invokespecial 12, 3) := by decide +kernel
theorem dL_law_15 : decode cL_law 15 = .ok (.astore_n 2, 1) := by decide +kernel
theorem dL_law_16 : decode cL_law 16 = .ok (.iconst 0, 1) := by decide +kernel
theorem dL_law_17 : decode cL_law 17 = .ok (.istore_n 3, 1) := by decide +kernel
theorem dL_law_18 : decode cL_law 18 = .ok (.iload_n 3, 1) := by decide +kernel
theorem dL_law_19 : decode cL_law 19 = .ok (.aload_n 0, 1) := by decide +kernel
theorem dL_law_20 : decode cL_law 20 = .ok (.arraylength, 1) := by decide +kernel
theorem dL_law_21 : decode cL_law 21 = .ok (.bipush 6, 2) := by decide +kernel
theorem dL_law_23 : decode cL_law 23 = .ok (.isub, 1) := by decide +kernel
theorem dL_law_24 : decode cL_law 24 = .ok (.if_icmp .gt 1034, 3) := by decide +kernel
theorem dL_law_27 : decode cL_law 27 = .ok (.aload_n 0, 1) := by decide +kernel
theorem dL_law_28 : decode cL_law 28 = .ok (.iload_n 3, 1) := by decide +kernel
theorem dL_law_29 : decode cL_law 29 = .ok (.iaload, 1) := by decide +kernel
theorem dL_law_30 : decode cL_law 30 = .ok (.bipush 31, 2) := by decide +kernel
theorem dL_law_32 : decode cL_law 32 = .ok (.iand, 1) := by decide +kernel
theorem dL_law_33 : decode cL_law 33 = .ok (.tableswitch 1019 0 25 #[119, 162, 205, 238, 261, 274, 297, 310, 353, 396, 419, 443, 486, 519, 562, 605, 648, 681, 735, 748, 761, 784, 827, 870, 933, 986], 119) := by decide +kernel
theorem dL_law_152 : decode cL_law 152 = .ok (.aload_n 1, 1) := by decide +kernel
theorem dL_law_153 : decode cL_law 153 = .ok (.aload_n 0, 1) := by decide +kernel
theorem dL_law_154 : decode cL_law 154 = .ok (.iload_n 3, 1) := by decide +kernel
theorem dL_law_155 : decode cL_law 155 = .ok (.iconst 1, 1) := by decide +kernel
theorem dL_law_156 : decode cL_law 156 = .ok (.iadd, 1) := by decide +kernel
theorem dL_law_157 : decode cL_law 157 = .ok (.iaload, 1) := by decide +kernel
theorem dL_law_158 : decode cL_law 158 = .ok (.aload_n 0, 1) := by decide +kernel
theorem dL_law_159 : decode cL_law 159 = .ok (.iload_n 3, 1) := by decide +kernel
theorem dL_law_160 : decode cL_law 160 = .ok (.iconst 2, 1) := by decide +kernel
theorem dL_law_161 : decode cL_law 161 = .ok (.iadd, 1) := by decide +kernel
theorem dL_law_162 : decode cL_law 162 = .ok (.iaload, 1) := by decide +kernel
theorem dL_law_163 : decode cL_law 163 = .ok (.aload_n 0, 1) := by decide +kernel
theorem dL_law_164 : decode cL_law 164 = .ok (.iload_n 3, 1) := by decide +kernel
theorem dL_law_165 : decode cL_law 165 = .ok (.iconst 3, 1) := by decide +kernel
theorem dL_law_166 : decode cL_law 166 = .ok (.iadd, 1) := by decide +kernel
theorem dL_law_167 : decode cL_law 167 = .ok (.iaload, 1) := by decide +kernel
theorem dL_law_168 : decode cL_law 168 = .ok (.invokevirtual 13, 3) := by decide +kernel
theorem dL_law_171 : decode cL_law 171 = .ok (.aload_n 2, 1) := by decide +kernel
theorem dL_law_172 : decode cL_law 172 = .ok (.aload_n 0, 1) := by decide +kernel
theorem dL_law_173 : decode cL_law 173 = .ok (.iload_n 3, 1) := by decide +kernel
theorem dL_law_174 : decode cL_law 174 = .ok (.iconst 1, 1) := by decide +kernel
theorem dL_law_175 : decode cL_law 175 = .ok (.iadd, 1) := by decide +kernel
theorem dL_law_176 : decode cL_law 176 = .ok (.iaload, 1) := by decide +kernel
theorem dL_law_177 : decode cL_law 177 = .ok (.aload_n 0, 1) := by decide +kernel
theorem dL_law_178 : decode cL_law 178 = .ok (.iload_n 3, 1) := by decide +kernel
theorem dL_law_179 : decode cL_law 179 = .ok (.iconst 2, 1) := by decide +kernel
theorem dL_law_180 : decode cL_law 180 = .ok (.iadd, 1) := by decide +kernel
theorem dL_law_181 : decode cL_law 181 = .ok (.iaload, 1) := by decide +kernel
theorem dL_law_182 : decode cL_law 182 = .ok (.aload_n 0, 1) := by decide +kernel
theorem dL_law_183 : decode cL_law 183 = .ok (.iload_n 3, 1) := by decide +kernel
theorem dL_law_184 : decode cL_law 184 = .ok (.iconst 3, 1) := by decide +kernel
theorem dL_law_185 : decode cL_law 185 = .ok (.iadd, 1) := by decide +kernel
theorem dL_law_186 : decode cL_law 186 = .ok (.iaload, 1) := by decide +kernel
theorem dL_law_187 : decode cL_law 187 = .ok (.invokevirtual 17, 3) := by decide +kernel
theorem dL_law_190 : decode cL_law 190 = .ok (.if_icmp .eq 862, 3) := by decide +kernel
theorem dL_law_193 : decode cL_law 193 = .ok (.iconst 0, 1) := by decide +kernel
theorem dL_law_194 : decode cL_law 194 = .ok (.ireturn, 1) := by decide +kernel
theorem dL_law_195 : decode cL_law 195 = .ok (.aload_n 1, 1) := by decide +kernel
theorem dL_law_196 : decode cL_law 196 = .ok (.aload_n 0, 1) := by decide +kernel
theorem dL_law_197 : decode cL_law 197 = .ok (.iload_n 3, 1) := by decide +kernel
theorem dL_law_198 : decode cL_law 198 = .ok (.iconst 1, 1) := by decide +kernel
theorem dL_law_199 : decode cL_law 199 = .ok (.iadd, 1) := by decide +kernel
theorem dL_law_200 : decode cL_law 200 = .ok (.iaload, 1) := by decide +kernel
theorem dL_law_201 : decode cL_law 201 = .ok (.aload_n 0, 1) := by decide +kernel
theorem dL_law_202 : decode cL_law 202 = .ok (.iload_n 3, 1) := by decide +kernel
theorem dL_law_203 : decode cL_law 203 = .ok (.iconst 2, 1) := by decide +kernel
theorem dL_law_204 : decode cL_law 204 = .ok (.iadd, 1) := by decide +kernel
theorem dL_law_205 : decode cL_law 205 = .ok (.iaload, 1) := by decide +kernel
theorem dL_law_206 : decode cL_law 206 = .ok (.aload_n 0, 1) := by decide +kernel
theorem dL_law_207 : decode cL_law 207 = .ok (.iload_n 3, 1) := by decide +kernel
theorem dL_law_208 : decode cL_law 208 = .ok (.iconst 3, 1) := by decide +kernel
theorem dL_law_209 : decode cL_law 209 = .ok (.iadd, 1) := by decide +kernel
theorem dL_law_210 : decode cL_law 210 = .ok (.iaload, 1) := by decide +kernel
theorem dL_law_211 : decode cL_law 211 = .ok (.invokevirtual 18, 3) := by decide +kernel
theorem dL_law_214 : decode cL_law 214 = .ok (.aload_n 2, 1) := by decide +kernel
theorem dL_law_215 : decode cL_law 215 = .ok (.aload_n 0, 1) := by decide +kernel
theorem dL_law_216 : decode cL_law 216 = .ok (.iload_n 3, 1) := by decide +kernel
theorem dL_law_217 : decode cL_law 217 = .ok (.iconst 1, 1) := by decide +kernel
theorem dL_law_218 : decode cL_law 218 = .ok (.iadd, 1) := by decide +kernel
theorem dL_law_219 : decode cL_law 219 = .ok (.iaload, 1) := by decide +kernel
theorem dL_law_220 : decode cL_law 220 = .ok (.aload_n 0, 1) := by decide +kernel
theorem dL_law_221 : decode cL_law 221 = .ok (.iload_n 3, 1) := by decide +kernel
theorem dL_law_222 : decode cL_law 222 = .ok (.iconst 2, 1) := by decide +kernel
theorem dL_law_223 : decode cL_law 223 = .ok (.iadd, 1) := by decide +kernel
theorem dL_law_224 : decode cL_law 224 = .ok (.iaload, 1) := by decide +kernel
theorem dL_law_225 : decode cL_law 225 = .ok (.aload_n 0, 1) := by decide +kernel
theorem dL_law_226 : decode cL_law 226 = .ok (.iload_n 3, 1) := by decide +kernel
theorem dL_law_227 : decode cL_law 227 = .ok (.iconst 3, 1) := by decide +kernel
theorem dL_law_228 : decode cL_law 228 = .ok (.iadd, 1) := by decide +kernel
theorem dL_law_229 : decode cL_law 229 = .ok (.iaload, 1) := by decide +kernel
theorem dL_law_230 : decode cL_law 230 = .ok (.invokevirtual 21, 3) := by decide +kernel
theorem dL_law_233 : decode cL_law 233 = .ok (.if_icmp .eq 819, 3) := by decide +kernel
theorem dL_law_236 : decode cL_law 236 = .ok (.iconst 0, 1) := by decide +kernel
theorem dL_law_237 : decode cL_law 237 = .ok (.ireturn, 1) := by decide +kernel
theorem dL_law_238 : decode cL_law 238 = .ok (.aload_n 1, 1) := by decide +kernel
theorem dL_law_239 : decode cL_law 239 = .ok (.aload_n 0, 1) := by decide +kernel
theorem dL_law_240 : decode cL_law 240 = .ok (.iload_n 3, 1) := by decide +kernel
theorem dL_law_241 : decode cL_law 241 = .ok (.iconst 1, 1) := by decide +kernel
theorem dL_law_242 : decode cL_law 242 = .ok (.iadd, 1) := by decide +kernel
theorem dL_law_243 : decode cL_law 243 = .ok (.iaload, 1) := by decide +kernel
theorem dL_law_244 : decode cL_law 244 = .ok (.aload_n 0, 1) := by decide +kernel
theorem dL_law_245 : decode cL_law 245 = .ok (.iload_n 3, 1) := by decide +kernel
theorem dL_law_246 : decode cL_law 246 = .ok (.iconst 2, 1) := by decide +kernel
theorem dL_law_247 : decode cL_law 247 = .ok (.iadd, 1) := by decide +kernel
theorem dL_law_248 : decode cL_law 248 = .ok (.iaload, 1) := by decide +kernel
theorem dL_law_249 : decode cL_law 249 = .ok (.invokevirtual 22, 3) := by decide +kernel
theorem dL_law_252 : decode cL_law 252 = .ok (.aload_n 2, 1) := by decide +kernel
theorem dL_law_253 : decode cL_law 253 = .ok (.aload_n 0, 1) := by decide +kernel
theorem dL_law_254 : decode cL_law 254 = .ok (.iload_n 3, 1) := by decide +kernel
theorem dL_law_255 : decode cL_law 255 = .ok (.iconst 1, 1) := by decide +kernel
theorem dL_law_256 : decode cL_law 256 = .ok (.iadd, 1) := by decide +kernel
theorem dL_law_257 : decode cL_law 257 = .ok (.iaload, 1) := by decide +kernel
theorem dL_law_258 : decode cL_law 258 = .ok (.aload_n 0, 1) := by decide +kernel
theorem dL_law_259 : decode cL_law 259 = .ok (.iload_n 3, 1) := by decide +kernel
theorem dL_law_260 : decode cL_law 260 = .ok (.iconst 2, 1) := by decide +kernel
theorem dL_law_261 : decode cL_law 261 = .ok (.iadd, 1) := by decide +kernel
theorem dL_law_262 : decode cL_law 262 = .ok (.iaload, 1) := by decide +kernel
theorem dL_law_263 : decode cL_law 263 = .ok (.invokevirtual 26, 3) := by decide +kernel
theorem dL_law_266 : decode cL_law 266 = .ok (.if_icmp .eq 786, 3) := by decide +kernel
theorem dL_law_269 : decode cL_law 269 = .ok (.iconst 0, 1) := by decide +kernel
theorem dL_law_270 : decode cL_law 270 = .ok (.ireturn, 1) := by decide +kernel
theorem dL_law_271 : decode cL_law 271 = .ok (.aload_n 1, 1) := by decide +kernel
theorem dL_law_272 : decode cL_law 272 = .ok (.aload_n 0, 1) := by decide +kernel
theorem dL_law_273 : decode cL_law 273 = .ok (.iload_n 3, 1) := by decide +kernel
theorem dL_law_274 : decode cL_law 274 = .ok (.iconst 1, 1) := by decide +kernel
theorem dL_law_275 : decode cL_law 275 = .ok (.iadd, 1) := by decide +kernel
theorem dL_law_276 : decode cL_law 276 = .ok (.iaload, 1) := by decide +kernel
theorem dL_law_277 : decode cL_law 277 = .ok (.invokevirtual 27, 3) := by decide +kernel
theorem dL_law_280 : decode cL_law 280 = .ok (.aload_n 2, 1) := by decide +kernel
theorem dL_law_281 : decode cL_law 281 = .ok (.aload_n 0, 1) := by decide +kernel
theorem dL_law_282 : decode cL_law 282 = .ok (.iload_n 3, 1) := by decide +kernel
theorem dL_law_283 : decode cL_law 283 = .ok (.iconst 1, 1) := by decide +kernel
theorem dL_law_284 : decode cL_law 284 = .ok (.iadd, 1) := by decide +kernel
theorem dL_law_285 : decode cL_law 285 = .ok (.iaload, 1) := by decide +kernel
theorem dL_law_286 : decode cL_law 286 = .ok (.invokevirtual 31, 3) := by decide +kernel
theorem dL_law_289 : decode cL_law 289 = .ok (.if_icmp .eq 763, 3) := by decide +kernel
theorem dL_law_292 : decode cL_law 292 = .ok (.iconst 0, 1) := by decide +kernel
theorem dL_law_293 : decode cL_law 293 = .ok (.ireturn, 1) := by decide +kernel
theorem dL_law_294 : decode cL_law 294 = .ok (.aload_n 1, 1) := by decide +kernel
theorem dL_law_295 : decode cL_law 295 = .ok (.invokevirtual 32, 3) := by decide +kernel
theorem dL_law_298 : decode cL_law 298 = .ok (.aload_n 2, 1) := by decide +kernel
theorem dL_law_299 : decode cL_law 299 = .ok (.invokevirtual 36, 3) := by decide +kernel
theorem dL_law_302 : decode cL_law 302 = .ok (.if_icmp .eq 750, 3) := by decide +kernel
theorem dL_law_305 : decode cL_law 305 = .ok (.iconst 0, 1) := by decide +kernel
theorem dL_law_306 : decode cL_law 306 = .ok (.ireturn, 1) := by decide +kernel
theorem dL_law_307 : decode cL_law 307 = .ok (.aload_n 1, 1) := by decide +kernel
theorem dL_law_308 : decode cL_law 308 = .ok (.aload_n 0, 1) := by decide +kernel
theorem dL_law_309 : decode cL_law 309 = .ok (.iload_n 3, 1) := by decide +kernel
theorem dL_law_310 : decode cL_law 310 = .ok (.iconst 1, 1) := by decide +kernel
theorem dL_law_311 : decode cL_law 311 = .ok (.iadd, 1) := by decide +kernel
theorem dL_law_312 : decode cL_law 312 = .ok (.iaload, 1) := by decide +kernel
theorem dL_law_313 : decode cL_law 313 = .ok (.invokevirtual 37, 3) := by decide +kernel
theorem dL_law_316 : decode cL_law 316 = .ok (.aload_n 2, 1) := by decide +kernel
theorem dL_law_317 : decode cL_law 317 = .ok (.aload_n 0, 1) := by decide +kernel
theorem dL_law_318 : decode cL_law 318 = .ok (.iload_n 3, 1) := by decide +kernel
theorem dL_law_319 : decode cL_law 319 = .ok (.iconst 1, 1) := by decide +kernel
theorem dL_law_320 : decode cL_law 320 = .ok (.iadd, 1) := by decide +kernel
theorem dL_law_321 : decode cL_law 321 = .ok (.iaload, 1) := by decide +kernel
theorem dL_law_322 : decode cL_law 322 = .ok (.invokevirtual 40, 3) := by decide +kernel
theorem dL_law_325 : decode cL_law 325 = .ok (.if_icmp .eq 727, 3) := by decide +kernel
theorem dL_law_328 : decode cL_law 328 = .ok (.iconst 0, 1) := by decide +kernel
theorem dL_law_329 : decode cL_law 329 = .ok (.ireturn, 1) := by decide +kernel
theorem dL_law_330 : decode cL_law 330 = .ok (.aload_n 1, 1) := by decide +kernel
theorem dL_law_331 : decode cL_law 331 = .ok (.invokevirtual 41, 3) := by decide +kernel
theorem dL_law_334 : decode cL_law 334 = .ok (.aload_n 2, 1) := by decide +kernel
theorem dL_law_335 : decode cL_law 335 = .ok (.invokevirtual 44, 3) := by decide +kernel
theorem dL_law_338 : decode cL_law 338 = .ok (.if_icmp .eq 714, 3) := by decide +kernel
theorem dL_law_341 : decode cL_law 341 = .ok (.iconst 0, 1) := by decide +kernel
theorem dL_law_342 : decode cL_law 342 = .ok (.ireturn, 1) := by decide +kernel
theorem dL_law_343 : decode cL_law 343 = .ok (.aload_n 1, 1) := by decide +kernel
theorem dL_law_344 : decode cL_law 344 = .ok (.aload_n 0, 1) := by decide +kernel
theorem dL_law_345 : decode cL_law 345 = .ok (.iload_n 3, 1) := by decide +kernel
theorem dL_law_346 : decode cL_law 346 = .ok (.iconst 1, 1) := by decide +kernel
theorem dL_law_347 : decode cL_law 347 = .ok (.iadd, 1) := by decide +kernel
theorem dL_law_348 : decode cL_law 348 = .ok (.iaload, 1) := by decide +kernel
theorem dL_law_349 : decode cL_law 349 = .ok (.aload_n 0, 1) := by decide +kernel
theorem dL_law_350 : decode cL_law 350 = .ok (.iload_n 3, 1) := by decide +kernel
theorem dL_law_351 : decode cL_law 351 = .ok (.iconst 2, 1) := by decide +kernel
theorem dL_law_352 : decode cL_law 352 = .ok (.iadd, 1) := by decide +kernel
theorem dL_law_353 : decode cL_law 353 = .ok (.iaload, 1) := by decide +kernel
theorem dL_law_354 : decode cL_law 354 = .ok (.aload_n 0, 1) := by decide +kernel
theorem dL_law_355 : decode cL_law 355 = .ok (.iload_n 3, 1) := by decide +kernel
theorem dL_law_356 : decode cL_law 356 = .ok (.iconst 3, 1) := by decide +kernel
theorem dL_law_357 : decode cL_law 357 = .ok (.iadd, 1) := by decide +kernel
theorem dL_law_358 : decode cL_law 358 = .ok (.iaload, 1) := by decide +kernel
theorem dL_law_359 : decode cL_law 359 = .ok (.invokevirtual 45, 3) := by decide +kernel
theorem dL_law_362 : decode cL_law 362 = .ok (.aload_n 2, 1) := by decide +kernel
theorem dL_law_363 : decode cL_law 363 = .ok (.aload_n 0, 1) := by decide +kernel
theorem dL_law_364 : decode cL_law 364 = .ok (.iload_n 3, 1) := by decide +kernel
theorem dL_law_365 : decode cL_law 365 = .ok (.iconst 1, 1) := by decide +kernel
theorem dL_law_366 : decode cL_law 366 = .ok (.iadd, 1) := by decide +kernel
theorem dL_law_367 : decode cL_law 367 = .ok (.iaload, 1) := by decide +kernel
theorem dL_law_368 : decode cL_law 368 = .ok (.aload_n 0, 1) := by decide +kernel
theorem dL_law_369 : decode cL_law 369 = .ok (.iload_n 3, 1) := by decide +kernel
theorem dL_law_370 : decode cL_law 370 = .ok (.iconst 2, 1) := by decide +kernel
theorem dL_law_371 : decode cL_law 371 = .ok (.iadd, 1) := by decide +kernel
theorem dL_law_372 : decode cL_law 372 = .ok (.iaload, 1) := by decide +kernel
theorem dL_law_373 : decode cL_law 373 = .ok (.aload_n 0, 1) := by decide +kernel
theorem dL_law_374 : decode cL_law 374 = .ok (.iload_n 3, 1) := by decide +kernel
theorem dL_law_375 : decode cL_law 375 = .ok (.iconst 3, 1) := by decide +kernel
theorem dL_law_376 : decode cL_law 376 = .ok (.iadd, 1) := by decide +kernel
theorem dL_law_377 : decode cL_law 377 = .ok (.iaload, 1) := by decide +kernel
theorem dL_law_378 : decode cL_law 378 = .ok (.invokevirtual 48, 3) := by decide +kernel
theorem dL_law_381 : decode cL_law 381 = .ok (.if_icmp .eq 671, 3) := by decide +kernel
theorem dL_law_384 : decode cL_law 384 = .ok (.iconst 0, 1) := by decide +kernel
theorem dL_law_385 : decode cL_law 385 = .ok (.ireturn, 1) := by decide +kernel
theorem dL_law_386 : decode cL_law 386 = .ok (.aload_n 1, 1) := by decide +kernel
theorem dL_law_387 : decode cL_law 387 = .ok (.aload_n 0, 1) := by decide +kernel
theorem dL_law_388 : decode cL_law 388 = .ok (.iload_n 3, 1) := by decide +kernel
theorem dL_law_389 : decode cL_law 389 = .ok (.iconst 1, 1) := by decide +kernel
theorem dL_law_390 : decode cL_law 390 = .ok (.iadd, 1) := by decide +kernel
theorem dL_law_391 : decode cL_law 391 = .ok (.iaload, 1) := by decide +kernel
theorem dL_law_392 : decode cL_law 392 = .ok (.aload_n 0, 1) := by decide +kernel
theorem dL_law_393 : decode cL_law 393 = .ok (.iload_n 3, 1) := by decide +kernel
theorem dL_law_394 : decode cL_law 394 = .ok (.iconst 2, 1) := by decide +kernel
theorem dL_law_395 : decode cL_law 395 = .ok (.iadd, 1) := by decide +kernel
theorem dL_law_396 : decode cL_law 396 = .ok (.iaload, 1) := by decide +kernel
theorem dL_law_397 : decode cL_law 397 = .ok (.aload_n 0, 1) := by decide +kernel
theorem dL_law_398 : decode cL_law 398 = .ok (.iload_n 3, 1) := by decide +kernel
theorem dL_law_399 : decode cL_law 399 = .ok (.iconst 3, 1) := by decide +kernel
theorem dL_law_400 : decode cL_law 400 = .ok (.iadd, 1) := by decide +kernel
theorem dL_law_401 : decode cL_law 401 = .ok (.iaload, 1) := by decide +kernel
theorem dL_law_402 : decode cL_law 402 = .ok (.invokevirtual 49, 3) := by decide +kernel
theorem dL_law_405 : decode cL_law 405 = .ok (.aload_n 2, 1) := by decide +kernel
theorem dL_law_406 : decode cL_law 406 = .ok (.aload_n 0, 1) := by decide +kernel
theorem dL_law_407 : decode cL_law 407 = .ok (.iload_n 3, 1) := by decide +kernel
theorem dL_law_408 : decode cL_law 408 = .ok (.iconst 1, 1) := by decide +kernel
theorem dL_law_409 : decode cL_law 409 = .ok (.iadd, 1) := by decide +kernel
theorem dL_law_410 : decode cL_law 410 = .ok (.iaload, 1) := by decide +kernel
theorem dL_law_411 : decode cL_law 411 = .ok (.aload_n 0, 1) := by decide +kernel
theorem dL_law_412 : decode cL_law 412 = .ok (.iload_n 3, 1) := by decide +kernel
theorem dL_law_413 : decode cL_law 413 = .ok (.iconst 2, 1) := by decide +kernel
theorem dL_law_414 : decode cL_law 414 = .ok (.iadd, 1) := by decide +kernel
theorem dL_law_415 : decode cL_law 415 = .ok (.iaload, 1) := by decide +kernel
theorem dL_law_416 : decode cL_law 416 = .ok (.aload_n 0, 1) := by decide +kernel
theorem dL_law_417 : decode cL_law 417 = .ok (.iload_n 3, 1) := by decide +kernel
theorem dL_law_418 : decode cL_law 418 = .ok (.iconst 3, 1) := by decide +kernel
theorem dL_law_419 : decode cL_law 419 = .ok (.iadd, 1) := by decide +kernel
theorem dL_law_420 : decode cL_law 420 = .ok (.iaload, 1) := by decide +kernel
theorem dL_law_421 : decode cL_law 421 = .ok (.invokevirtual 52, 3) := by decide +kernel
theorem dL_law_424 : decode cL_law 424 = .ok (.if_icmp .eq 628, 3) := by decide +kernel
theorem dL_law_427 : decode cL_law 427 = .ok (.iconst 0, 1) := by decide +kernel
theorem dL_law_428 : decode cL_law 428 = .ok (.ireturn, 1) := by decide +kernel
theorem dL_law_429 : decode cL_law 429 = .ok (.aload_n 1, 1) := by decide +kernel
theorem dL_law_430 : decode cL_law 430 = .ok (.aload_n 0, 1) := by decide +kernel
theorem dL_law_431 : decode cL_law 431 = .ok (.iload_n 3, 1) := by decide +kernel
theorem dL_law_432 : decode cL_law 432 = .ok (.iconst 1, 1) := by decide +kernel
theorem dL_law_433 : decode cL_law 433 = .ok (.iadd, 1) := by decide +kernel
theorem dL_law_434 : decode cL_law 434 = .ok (.iaload, 1) := by decide +kernel
theorem dL_law_435 : decode cL_law 435 = .ok (.invokevirtual 53, 3) := by decide +kernel
theorem dL_law_438 : decode cL_law 438 = .ok (.aload_n 2, 1) := by decide +kernel
theorem dL_law_439 : decode cL_law 439 = .ok (.aload_n 0, 1) := by decide +kernel
theorem dL_law_440 : decode cL_law 440 = .ok (.iload_n 3, 1) := by decide +kernel
theorem dL_law_441 : decode cL_law 441 = .ok (.iconst 1, 1) := by decide +kernel
theorem dL_law_442 : decode cL_law 442 = .ok (.iadd, 1) := by decide +kernel
theorem dL_law_443 : decode cL_law 443 = .ok (.iaload, 1) := by decide +kernel
theorem dL_law_444 : decode cL_law 444 = .ok (.invokevirtual 56, 3) := by decide +kernel
theorem dL_law_447 : decode cL_law 447 = .ok (.if_icmp .eq 605, 3) := by decide +kernel
theorem dL_law_450 : decode cL_law 450 = .ok (.iconst 0, 1) := by decide +kernel
theorem dL_law_451 : decode cL_law 451 = .ok (.ireturn, 1) := by decide +kernel
theorem dL_law_452 : decode cL_law 452 = .ok (.aload_n 1, 1) := by decide +kernel
theorem dL_law_453 : decode cL_law 453 = .ok (.aload_n 0, 1) := by decide +kernel
theorem dL_law_454 : decode cL_law 454 = .ok (.iload_n 3, 1) := by decide +kernel
theorem dL_law_455 : decode cL_law 455 = .ok (.iconst 1, 1) := by decide +kernel
theorem dL_law_456 : decode cL_law 456 = .ok (.iadd, 1) := by decide +kernel
theorem dL_law_457 : decode cL_law 457 = .ok (.iaload, 1) := by decide +kernel
theorem dL_law_458 : decode cL_law 458 = .ok (.invokevirtual 57, 3) := by decide +kernel
theorem dL_law_461 : decode cL_law 461 = .ok (.aload_n 2, 1) := by decide +kernel
theorem dL_law_462 : decode cL_law 462 = .ok (.aload_n 0, 1) := by decide +kernel
theorem dL_law_463 : decode cL_law 463 = .ok (.iload_n 3, 1) := by decide +kernel
theorem dL_law_464 : decode cL_law 464 = .ok (.iconst 1, 1) := by decide +kernel
theorem dL_law_465 : decode cL_law 465 = .ok (.iadd, 1) := by decide +kernel
theorem dL_law_466 : decode cL_law 466 = .ok (.iaload, 1) := by decide +kernel
theorem dL_law_467 : decode cL_law 467 = .ok (.invokevirtual 61, 3) := by decide +kernel
theorem dL_law_470 : decode cL_law 470 = .ok (.lcmp, 1) := by decide +kernel
theorem dL_law_471 : decode cL_law 471 = .ok (.ifCond .eq 581, 3) := by decide +kernel
theorem dL_law_474 : decode cL_law 474 = .ok (.iconst 0, 1) := by decide +kernel
theorem dL_law_475 : decode cL_law 475 = .ok (.ireturn, 1) := by decide +kernel
theorem dL_law_476 : decode cL_law 476 = .ok (.aload_n 1, 1) := by decide +kernel
theorem dL_law_477 : decode cL_law 477 = .ok (.aload_n 0, 1) := by decide +kernel
theorem dL_law_478 : decode cL_law 478 = .ok (.iload_n 3, 1) := by decide +kernel
theorem dL_law_479 : decode cL_law 479 = .ok (.iconst 1, 1) := by decide +kernel
theorem dL_law_480 : decode cL_law 480 = .ok (.iadd, 1) := by decide +kernel
theorem dL_law_481 : decode cL_law 481 = .ok (.iaload, 1) := by decide +kernel
theorem dL_law_482 : decode cL_law 482 = .ok (.aload_n 0, 1) := by decide +kernel
theorem dL_law_483 : decode cL_law 483 = .ok (.iload_n 3, 1) := by decide +kernel
theorem dL_law_484 : decode cL_law 484 = .ok (.iconst 2, 1) := by decide +kernel
theorem dL_law_485 : decode cL_law 485 = .ok (.iadd, 1) := by decide +kernel
theorem dL_law_486 : decode cL_law 486 = .ok (.iaload, 1) := by decide +kernel
theorem dL_law_487 : decode cL_law 487 = .ok (.aload_n 0, 1) := by decide +kernel
theorem dL_law_488 : decode cL_law 488 = .ok (.iload_n 3, 1) := by decide +kernel
theorem dL_law_489 : decode cL_law 489 = .ok (.iconst 3, 1) := by decide +kernel
theorem dL_law_490 : decode cL_law 490 = .ok (.iadd, 1) := by decide +kernel
theorem dL_law_491 : decode cL_law 491 = .ok (.iaload, 1) := by decide +kernel
theorem dL_law_492 : decode cL_law 492 = .ok (.invokevirtual 62, 3) := by decide +kernel
theorem dL_law_495 : decode cL_law 495 = .ok (.aload_n 2, 1) := by decide +kernel
theorem dL_law_496 : decode cL_law 496 = .ok (.aload_n 0, 1) := by decide +kernel
theorem dL_law_497 : decode cL_law 497 = .ok (.iload_n 3, 1) := by decide +kernel
theorem dL_law_498 : decode cL_law 498 = .ok (.iconst 1, 1) := by decide +kernel
theorem dL_law_499 : decode cL_law 499 = .ok (.iadd, 1) := by decide +kernel
theorem dL_law_500 : decode cL_law 500 = .ok (.iaload, 1) := by decide +kernel
theorem dL_law_501 : decode cL_law 501 = .ok (.aload_n 0, 1) := by decide +kernel
theorem dL_law_502 : decode cL_law 502 = .ok (.iload_n 3, 1) := by decide +kernel
theorem dL_law_503 : decode cL_law 503 = .ok (.iconst 2, 1) := by decide +kernel
theorem dL_law_504 : decode cL_law 504 = .ok (.iadd, 1) := by decide +kernel
theorem dL_law_505 : decode cL_law 505 = .ok (.iaload, 1) := by decide +kernel
theorem dL_law_506 : decode cL_law 506 = .ok (.aload_n 0, 1) := by decide +kernel
theorem dL_law_507 : decode cL_law 507 = .ok (.iload_n 3, 1) := by decide +kernel
theorem dL_law_508 : decode cL_law 508 = .ok (.iconst 3, 1) := by decide +kernel
theorem dL_law_509 : decode cL_law 509 = .ok (.iadd, 1) := by decide +kernel
theorem dL_law_510 : decode cL_law 510 = .ok (.iaload, 1) := by decide +kernel
theorem dL_law_511 : decode cL_law 511 = .ok (.invokevirtual 65, 3) := by decide +kernel
theorem dL_law_514 : decode cL_law 514 = .ok (.if_icmp .eq 538, 3) := by decide +kernel
theorem dL_law_517 : decode cL_law 517 = .ok (.iconst 0, 1) := by decide +kernel
theorem dL_law_518 : decode cL_law 518 = .ok (.ireturn, 1) := by decide +kernel
theorem dL_law_519 : decode cL_law 519 = .ok (.aload_n 1, 1) := by decide +kernel
theorem dL_law_520 : decode cL_law 520 = .ok (.aload_n 0, 1) := by decide +kernel
theorem dL_law_521 : decode cL_law 521 = .ok (.iload_n 3, 1) := by decide +kernel
theorem dL_law_522 : decode cL_law 522 = .ok (.iconst 1, 1) := by decide +kernel
theorem dL_law_523 : decode cL_law 523 = .ok (.iadd, 1) := by decide +kernel
theorem dL_law_524 : decode cL_law 524 = .ok (.iaload, 1) := by decide +kernel
theorem dL_law_525 : decode cL_law 525 = .ok (.aload_n 0, 1) := by decide +kernel
theorem dL_law_526 : decode cL_law 526 = .ok (.iload_n 3, 1) := by decide +kernel
theorem dL_law_527 : decode cL_law 527 = .ok (.iconst 2, 1) := by decide +kernel
theorem dL_law_528 : decode cL_law 528 = .ok (.iadd, 1) := by decide +kernel
theorem dL_law_529 : decode cL_law 529 = .ok (.iaload, 1) := by decide +kernel
theorem dL_law_530 : decode cL_law 530 = .ok (.invokevirtual 66, 3) := by decide +kernel
theorem dL_law_533 : decode cL_law 533 = .ok (.aload_n 2, 1) := by decide +kernel
theorem dL_law_534 : decode cL_law 534 = .ok (.aload_n 0, 1) := by decide +kernel
theorem dL_law_535 : decode cL_law 535 = .ok (.iload_n 3, 1) := by decide +kernel
theorem dL_law_536 : decode cL_law 536 = .ok (.iconst 1, 1) := by decide +kernel
theorem dL_law_537 : decode cL_law 537 = .ok (.iadd, 1) := by decide +kernel
theorem dL_law_538 : decode cL_law 538 = .ok (.iaload, 1) := by decide +kernel
theorem dL_law_539 : decode cL_law 539 = .ok (.aload_n 0, 1) := by decide +kernel
theorem dL_law_540 : decode cL_law 540 = .ok (.iload_n 3, 1) := by decide +kernel
theorem dL_law_541 : decode cL_law 541 = .ok (.iconst 2, 1) := by decide +kernel
theorem dL_law_542 : decode cL_law 542 = .ok (.iadd, 1) := by decide +kernel
theorem dL_law_543 : decode cL_law 543 = .ok (.iaload, 1) := by decide +kernel
theorem dL_law_544 : decode cL_law 544 = .ok (.invokevirtual 69, 3) := by decide +kernel
theorem dL_law_547 : decode cL_law 547 = .ok (.if_icmp .eq 505, 3) := by decide +kernel
theorem dL_law_550 : decode cL_law 550 = .ok (.iconst 0, 1) := by decide +kernel
theorem dL_law_551 : decode cL_law 551 = .ok (.ireturn, 1) := by decide +kernel
theorem dL_law_552 : decode cL_law 552 = .ok (.aload_n 1, 1) := by decide +kernel
theorem dL_law_553 : decode cL_law 553 = .ok (.aload_n 0, 1) := by decide +kernel
theorem dL_law_554 : decode cL_law 554 = .ok (.iload_n 3, 1) := by decide +kernel
theorem dL_law_555 : decode cL_law 555 = .ok (.iconst 1, 1) := by decide +kernel
theorem dL_law_556 : decode cL_law 556 = .ok (.iadd, 1) := by decide +kernel
theorem dL_law_557 : decode cL_law 557 = .ok (.iaload, 1) := by decide +kernel
theorem dL_law_558 : decode cL_law 558 = .ok (.aload_n 0, 1) := by decide +kernel
theorem dL_law_559 : decode cL_law 559 = .ok (.iload_n 3, 1) := by decide +kernel
theorem dL_law_560 : decode cL_law 560 = .ok (.iconst 2, 1) := by decide +kernel
theorem dL_law_561 : decode cL_law 561 = .ok (.iadd, 1) := by decide +kernel
theorem dL_law_562 : decode cL_law 562 = .ok (.iaload, 1) := by decide +kernel
theorem dL_law_563 : decode cL_law 563 = .ok (.aload_n 0, 1) := by decide +kernel
theorem dL_law_564 : decode cL_law 564 = .ok (.iload_n 3, 1) := by decide +kernel
theorem dL_law_565 : decode cL_law 565 = .ok (.iconst 3, 1) := by decide +kernel
theorem dL_law_566 : decode cL_law 566 = .ok (.iadd, 1) := by decide +kernel
theorem dL_law_567 : decode cL_law 567 = .ok (.iaload, 1) := by decide +kernel
theorem dL_law_568 : decode cL_law 568 = .ok (.invokevirtual 70, 3) := by decide +kernel
theorem dL_law_571 : decode cL_law 571 = .ok (.aload_n 2, 1) := by decide +kernel
theorem dL_law_572 : decode cL_law 572 = .ok (.aload_n 0, 1) := by decide +kernel
theorem dL_law_573 : decode cL_law 573 = .ok (.iload_n 3, 1) := by decide +kernel
theorem dL_law_574 : decode cL_law 574 = .ok (.iconst 1, 1) := by decide +kernel
theorem dL_law_575 : decode cL_law 575 = .ok (.iadd, 1) := by decide +kernel
theorem dL_law_576 : decode cL_law 576 = .ok (.iaload, 1) := by decide +kernel
theorem dL_law_577 : decode cL_law 577 = .ok (.aload_n 0, 1) := by decide +kernel
theorem dL_law_578 : decode cL_law 578 = .ok (.iload_n 3, 1) := by decide +kernel
theorem dL_law_579 : decode cL_law 579 = .ok (.iconst 2, 1) := by decide +kernel
theorem dL_law_580 : decode cL_law 580 = .ok (.iadd, 1) := by decide +kernel
theorem dL_law_581 : decode cL_law 581 = .ok (.iaload, 1) := by decide +kernel
theorem dL_law_582 : decode cL_law 582 = .ok (.aload_n 0, 1) := by decide +kernel
theorem dL_law_583 : decode cL_law 583 = .ok (.iload_n 3, 1) := by decide +kernel
theorem dL_law_584 : decode cL_law 584 = .ok (.iconst 3, 1) := by decide +kernel
theorem dL_law_585 : decode cL_law 585 = .ok (.iadd, 1) := by decide +kernel
theorem dL_law_586 : decode cL_law 586 = .ok (.iaload, 1) := by decide +kernel
theorem dL_law_587 : decode cL_law 587 = .ok (.invokevirtual 73, 3) := by decide +kernel
theorem dL_law_590 : decode cL_law 590 = .ok (.if_icmp .eq 462, 3) := by decide +kernel
theorem dL_law_593 : decode cL_law 593 = .ok (.iconst 0, 1) := by decide +kernel
theorem dL_law_594 : decode cL_law 594 = .ok (.ireturn, 1) := by decide +kernel
theorem dL_law_595 : decode cL_law 595 = .ok (.aload_n 1, 1) := by decide +kernel
theorem dL_law_596 : decode cL_law 596 = .ok (.aload_n 0, 1) := by decide +kernel
theorem dL_law_597 : decode cL_law 597 = .ok (.iload_n 3, 1) := by decide +kernel
theorem dL_law_598 : decode cL_law 598 = .ok (.iconst 1, 1) := by decide +kernel
theorem dL_law_599 : decode cL_law 599 = .ok (.iadd, 1) := by decide +kernel
theorem dL_law_600 : decode cL_law 600 = .ok (.iaload, 1) := by decide +kernel
theorem dL_law_601 : decode cL_law 601 = .ok (.aload_n 0, 1) := by decide +kernel
theorem dL_law_602 : decode cL_law 602 = .ok (.iload_n 3, 1) := by decide +kernel
theorem dL_law_603 : decode cL_law 603 = .ok (.iconst 2, 1) := by decide +kernel
theorem dL_law_604 : decode cL_law 604 = .ok (.iadd, 1) := by decide +kernel
theorem dL_law_605 : decode cL_law 605 = .ok (.iaload, 1) := by decide +kernel
theorem dL_law_606 : decode cL_law 606 = .ok (.aload_n 0, 1) := by decide +kernel
theorem dL_law_607 : decode cL_law 607 = .ok (.iload_n 3, 1) := by decide +kernel
theorem dL_law_608 : decode cL_law 608 = .ok (.iconst 3, 1) := by decide +kernel
theorem dL_law_609 : decode cL_law 609 = .ok (.iadd, 1) := by decide +kernel
theorem dL_law_610 : decode cL_law 610 = .ok (.iaload, 1) := by decide +kernel
theorem dL_law_611 : decode cL_law 611 = .ok (.invokevirtual 74, 3) := by decide +kernel
theorem dL_law_614 : decode cL_law 614 = .ok (.aload_n 2, 1) := by decide +kernel
theorem dL_law_615 : decode cL_law 615 = .ok (.aload_n 0, 1) := by decide +kernel
theorem dL_law_616 : decode cL_law 616 = .ok (.iload_n 3, 1) := by decide +kernel
theorem dL_law_617 : decode cL_law 617 = .ok (.iconst 1, 1) := by decide +kernel
theorem dL_law_618 : decode cL_law 618 = .ok (.iadd, 1) := by decide +kernel
theorem dL_law_619 : decode cL_law 619 = .ok (.iaload, 1) := by decide +kernel
theorem dL_law_620 : decode cL_law 620 = .ok (.aload_n 0, 1) := by decide +kernel
theorem dL_law_621 : decode cL_law 621 = .ok (.iload_n 3, 1) := by decide +kernel
theorem dL_law_622 : decode cL_law 622 = .ok (.iconst 2, 1) := by decide +kernel
theorem dL_law_623 : decode cL_law 623 = .ok (.iadd, 1) := by decide +kernel
theorem dL_law_624 : decode cL_law 624 = .ok (.iaload, 1) := by decide +kernel
theorem dL_law_625 : decode cL_law 625 = .ok (.aload_n 0, 1) := by decide +kernel
theorem dL_law_626 : decode cL_law 626 = .ok (.iload_n 3, 1) := by decide +kernel
theorem dL_law_627 : decode cL_law 627 = .ok (.iconst 3, 1) := by decide +kernel
theorem dL_law_628 : decode cL_law 628 = .ok (.iadd, 1) := by decide +kernel
theorem dL_law_629 : decode cL_law 629 = .ok (.iaload, 1) := by decide +kernel
theorem dL_law_630 : decode cL_law 630 = .ok (.invokevirtual 77, 3) := by decide +kernel
theorem dL_law_633 : decode cL_law 633 = .ok (.if_icmp .eq 419, 3) := by decide +kernel
theorem dL_law_636 : decode cL_law 636 = .ok (.iconst 0, 1) := by decide +kernel
theorem dL_law_637 : decode cL_law 637 = .ok (.ireturn, 1) := by decide +kernel
theorem dL_law_638 : decode cL_law 638 = .ok (.aload_n 1, 1) := by decide +kernel
theorem dL_law_639 : decode cL_law 639 = .ok (.aload_n 0, 1) := by decide +kernel
theorem dL_law_640 : decode cL_law 640 = .ok (.iload_n 3, 1) := by decide +kernel
theorem dL_law_641 : decode cL_law 641 = .ok (.iconst 1, 1) := by decide +kernel
theorem dL_law_642 : decode cL_law 642 = .ok (.iadd, 1) := by decide +kernel
theorem dL_law_643 : decode cL_law 643 = .ok (.iaload, 1) := by decide +kernel
theorem dL_law_644 : decode cL_law 644 = .ok (.aload_n 0, 1) := by decide +kernel
theorem dL_law_645 : decode cL_law 645 = .ok (.iload_n 3, 1) := by decide +kernel
theorem dL_law_646 : decode cL_law 646 = .ok (.iconst 2, 1) := by decide +kernel
theorem dL_law_647 : decode cL_law 647 = .ok (.iadd, 1) := by decide +kernel
theorem dL_law_648 : decode cL_law 648 = .ok (.iaload, 1) := by decide +kernel
theorem dL_law_649 : decode cL_law 649 = .ok (.aload_n 0, 1) := by decide +kernel
theorem dL_law_650 : decode cL_law 650 = .ok (.iload_n 3, 1) := by decide +kernel
theorem dL_law_651 : decode cL_law 651 = .ok (.iconst 3, 1) := by decide +kernel
theorem dL_law_652 : decode cL_law 652 = .ok (.iadd, 1) := by decide +kernel
theorem dL_law_653 : decode cL_law 653 = .ok (.iaload, 1) := by decide +kernel
theorem dL_law_654 : decode cL_law 654 = .ok (.invokevirtual 78, 3) := by decide +kernel
theorem dL_law_657 : decode cL_law 657 = .ok (.aload_n 2, 1) := by decide +kernel
theorem dL_law_658 : decode cL_law 658 = .ok (.aload_n 0, 1) := by decide +kernel
theorem dL_law_659 : decode cL_law 659 = .ok (.iload_n 3, 1) := by decide +kernel
theorem dL_law_660 : decode cL_law 660 = .ok (.iconst 1, 1) := by decide +kernel
theorem dL_law_661 : decode cL_law 661 = .ok (.iadd, 1) := by decide +kernel
theorem dL_law_662 : decode cL_law 662 = .ok (.iaload, 1) := by decide +kernel
theorem dL_law_663 : decode cL_law 663 = .ok (.aload_n 0, 1) := by decide +kernel
theorem dL_law_664 : decode cL_law 664 = .ok (.iload_n 3, 1) := by decide +kernel
theorem dL_law_665 : decode cL_law 665 = .ok (.iconst 2, 1) := by decide +kernel
theorem dL_law_666 : decode cL_law 666 = .ok (.iadd, 1) := by decide +kernel
theorem dL_law_667 : decode cL_law 667 = .ok (.iaload, 1) := by decide +kernel
theorem dL_law_668 : decode cL_law 668 = .ok (.aload_n 0, 1) := by decide +kernel
theorem dL_law_669 : decode cL_law 669 = .ok (.iload_n 3, 1) := by decide +kernel
theorem dL_law_670 : decode cL_law 670 = .ok (.iconst 3, 1) := by decide +kernel
theorem dL_law_671 : decode cL_law 671 = .ok (.iadd, 1) := by decide +kernel
theorem dL_law_672 : decode cL_law 672 = .ok (.iaload, 1) := by decide +kernel
theorem dL_law_673 : decode cL_law 673 = .ok (.invokevirtual 81, 3) := by decide +kernel
theorem dL_law_676 : decode cL_law 676 = .ok (.if_icmp .eq 376, 3) := by decide +kernel
theorem dL_law_679 : decode cL_law 679 = .ok (.iconst 0, 1) := by decide +kernel
theorem dL_law_680 : decode cL_law 680 = .ok (.ireturn, 1) := by decide +kernel
theorem dL_law_681 : decode cL_law 681 = .ok (.aload_n 1, 1) := by decide +kernel
theorem dL_law_682 : decode cL_law 682 = .ok (.aload_n 0, 1) := by decide +kernel
theorem dL_law_683 : decode cL_law 683 = .ok (.iload_n 3, 1) := by decide +kernel
theorem dL_law_684 : decode cL_law 684 = .ok (.iconst 1, 1) := by decide +kernel
theorem dL_law_685 : decode cL_law 685 = .ok (.iadd, 1) := by decide +kernel
theorem dL_law_686 : decode cL_law 686 = .ok (.iaload, 1) := by decide +kernel
theorem dL_law_687 : decode cL_law 687 = .ok (.aload_n 0, 1) := by decide +kernel
theorem dL_law_688 : decode cL_law 688 = .ok (.iload_n 3, 1) := by decide +kernel
theorem dL_law_689 : decode cL_law 689 = .ok (.iconst 2, 1) := by decide +kernel
theorem dL_law_690 : decode cL_law 690 = .ok (.iadd, 1) := by decide +kernel
theorem dL_law_691 : decode cL_law 691 = .ok (.iaload, 1) := by decide +kernel
theorem dL_law_692 : decode cL_law 692 = .ok (.invokevirtual 82, 3) := by decide +kernel
theorem dL_law_695 : decode cL_law 695 = .ok (.aload_n 2, 1) := by decide +kernel
theorem dL_law_696 : decode cL_law 696 = .ok (.aload_n 0, 1) := by decide +kernel
theorem dL_law_697 : decode cL_law 697 = .ok (.iload_n 3, 1) := by decide +kernel
theorem dL_law_698 : decode cL_law 698 = .ok (.iconst 1, 1) := by decide +kernel
theorem dL_law_699 : decode cL_law 699 = .ok (.iadd, 1) := by decide +kernel
theorem dL_law_700 : decode cL_law 700 = .ok (.iaload, 1) := by decide +kernel
theorem dL_law_701 : decode cL_law 701 = .ok (.aload_n 0, 1) := by decide +kernel
theorem dL_law_702 : decode cL_law 702 = .ok (.iload_n 3, 1) := by decide +kernel
theorem dL_law_703 : decode cL_law 703 = .ok (.iconst 2, 1) := by decide +kernel
theorem dL_law_704 : decode cL_law 704 = .ok (.iadd, 1) := by decide +kernel
theorem dL_law_705 : decode cL_law 705 = .ok (.iaload, 1) := by decide +kernel
theorem dL_law_706 : decode cL_law 706 = .ok (.invokevirtual 85, 3) := by decide +kernel
theorem dL_law_709 : decode cL_law 709 = .ok (.if_icmp .eq 343, 3) := by decide +kernel
theorem dL_law_712 : decode cL_law 712 = .ok (.iconst 0, 1) := by decide +kernel
theorem dL_law_713 : decode cL_law 713 = .ok (.ireturn, 1) := by decide +kernel
theorem dL_law_714 : decode cL_law 714 = .ok (.aload_n 1, 1) := by decide +kernel
theorem dL_law_715 : decode cL_law 715 = .ok (.aload_n 0, 1) := by decide +kernel
theorem dL_law_716 : decode cL_law 716 = .ok (.iload_n 3, 1) := by decide +kernel
theorem dL_law_717 : decode cL_law 717 = .ok (.iconst 1, 1) := by decide +kernel
theorem dL_law_718 : decode cL_law 718 = .ok (.iadd, 1) := by decide +kernel
theorem dL_law_719 : decode cL_law 719 = .ok (.iaload, 1) := by decide +kernel
theorem dL_law_720 : decode cL_law 720 = .ok (.aload_n 0, 1) := by decide +kernel
theorem dL_law_721 : decode cL_law 721 = .ok (.iload_n 3, 1) := by decide +kernel
theorem dL_law_722 : decode cL_law 722 = .ok (.iconst 2, 1) := by decide +kernel
theorem dL_law_723 : decode cL_law 723 = .ok (.iadd, 1) := by decide +kernel
theorem dL_law_724 : decode cL_law 724 = .ok (.iaload, 1) := by decide +kernel
theorem dL_law_725 : decode cL_law 725 = .ok (.aload_n 0, 1) := by decide +kernel
theorem dL_law_726 : decode cL_law 726 = .ok (.iload_n 3, 1) := by decide +kernel
theorem dL_law_727 : decode cL_law 727 = .ok (.iconst 3, 1) := by decide +kernel
theorem dL_law_728 : decode cL_law 728 = .ok (.iadd, 1) := by decide +kernel
theorem dL_law_729 : decode cL_law 729 = .ok (.iaload, 1) := by decide +kernel
theorem dL_law_730 : decode cL_law 730 = .ok (.aload_n 0, 1) := by decide +kernel
theorem dL_law_731 : decode cL_law 731 = .ok (.iload_n 3, 1) := by decide +kernel
theorem dL_law_732 : decode cL_law 732 = .ok (.iconst 4, 1) := by decide +kernel
theorem dL_law_733 : decode cL_law 733 = .ok (.iadd, 1) := by decide +kernel
theorem dL_law_734 : decode cL_law 734 = .ok (.iaload, 1) := by decide +kernel
theorem dL_law_735 : decode cL_law 735 = .ok (.invokevirtual 86, 3) := by decide +kernel
theorem dL_law_738 : decode cL_law 738 = .ok (.aload_n 2, 1) := by decide +kernel
theorem dL_law_739 : decode cL_law 739 = .ok (.aload_n 0, 1) := by decide +kernel
theorem dL_law_740 : decode cL_law 740 = .ok (.iload_n 3, 1) := by decide +kernel
theorem dL_law_741 : decode cL_law 741 = .ok (.iconst 1, 1) := by decide +kernel
theorem dL_law_742 : decode cL_law 742 = .ok (.iadd, 1) := by decide +kernel
theorem dL_law_743 : decode cL_law 743 = .ok (.iaload, 1) := by decide +kernel
theorem dL_law_744 : decode cL_law 744 = .ok (.aload_n 0, 1) := by decide +kernel
theorem dL_law_745 : decode cL_law 745 = .ok (.iload_n 3, 1) := by decide +kernel
theorem dL_law_746 : decode cL_law 746 = .ok (.iconst 2, 1) := by decide +kernel
theorem dL_law_747 : decode cL_law 747 = .ok (.iadd, 1) := by decide +kernel
theorem dL_law_748 : decode cL_law 748 = .ok (.iaload, 1) := by decide +kernel
theorem dL_law_749 : decode cL_law 749 = .ok (.aload_n 0, 1) := by decide +kernel
theorem dL_law_750 : decode cL_law 750 = .ok (.iload_n 3, 1) := by decide +kernel
theorem dL_law_751 : decode cL_law 751 = .ok (.iconst 3, 1) := by decide +kernel
theorem dL_law_752 : decode cL_law 752 = .ok (.iadd, 1) := by decide +kernel
theorem dL_law_753 : decode cL_law 753 = .ok (.iaload, 1) := by decide +kernel
theorem dL_law_754 : decode cL_law 754 = .ok (.aload_n 0, 1) := by decide +kernel
theorem dL_law_755 : decode cL_law 755 = .ok (.iload_n 3, 1) := by decide +kernel
theorem dL_law_756 : decode cL_law 756 = .ok (.iconst 4, 1) := by decide +kernel
theorem dL_law_757 : decode cL_law 757 = .ok (.iadd, 1) := by decide +kernel
theorem dL_law_758 : decode cL_law 758 = .ok (.iaload, 1) := by decide +kernel
theorem dL_law_759 : decode cL_law 759 = .ok (.invokevirtual 90, 3) := by decide +kernel
theorem dL_law_762 : decode cL_law 762 = .ok (.lcmp, 1) := by decide +kernel
theorem dL_law_763 : decode cL_law 763 = .ok (.ifCond .eq 289, 3) := by decide +kernel
theorem dL_law_766 : decode cL_law 766 = .ok (.iconst 0, 1) := by decide +kernel
theorem dL_law_767 : decode cL_law 767 = .ok (.ireturn, 1) := by decide +kernel
theorem dL_law_768 : decode cL_law 768 = .ok (.aload_n 1, 1) := by decide +kernel
theorem dL_law_769 : decode cL_law 769 = .ok (.invokevirtual 91, 3) := by decide +kernel
theorem dL_law_772 : decode cL_law 772 = .ok (.aload_n 2, 1) := by decide +kernel
theorem dL_law_773 : decode cL_law 773 = .ok (.invokevirtual 94, 3) := by decide +kernel
theorem dL_law_776 : decode cL_law 776 = .ok (.if_icmp .eq 276, 3) := by decide +kernel
theorem dL_law_779 : decode cL_law 779 = .ok (.iconst 0, 1) := by decide +kernel
theorem dL_law_780 : decode cL_law 780 = .ok (.ireturn, 1) := by decide +kernel
theorem dL_law_781 : decode cL_law 781 = .ok (.aload_n 1, 1) := by decide +kernel
theorem dL_law_782 : decode cL_law 782 = .ok (.invokevirtual 95, 3) := by decide +kernel
theorem dL_law_785 : decode cL_law 785 = .ok (.aload_n 2, 1) := by decide +kernel
theorem dL_law_786 : decode cL_law 786 = .ok (.invokevirtual 98, 3) := by decide +kernel
theorem dL_law_789 : decode cL_law 789 = .ok (.if_icmp .eq 263, 3) := by decide +kernel
theorem dL_law_792 : decode cL_law 792 = .ok (.iconst 0, 1) := by decide +kernel
theorem dL_law_793 : decode cL_law 793 = .ok (.ireturn, 1) := by decide +kernel
theorem dL_law_794 : decode cL_law 794 = .ok (.aload_n 1, 1) := by decide +kernel
theorem dL_law_795 : decode cL_law 795 = .ok (.aload_n 0, 1) := by decide +kernel
theorem dL_law_796 : decode cL_law 796 = .ok (.iload_n 3, 1) := by decide +kernel
theorem dL_law_797 : decode cL_law 797 = .ok (.iconst 1, 1) := by decide +kernel
theorem dL_law_798 : decode cL_law 798 = .ok (.iadd, 1) := by decide +kernel
theorem dL_law_799 : decode cL_law 799 = .ok (.iaload, 1) := by decide +kernel
theorem dL_law_800 : decode cL_law 800 = .ok (.invokevirtual 99, 3) := by decide +kernel
theorem dL_law_803 : decode cL_law 803 = .ok (.aload_n 2, 1) := by decide +kernel
theorem dL_law_804 : decode cL_law 804 = .ok (.aload_n 0, 1) := by decide +kernel
theorem dL_law_805 : decode cL_law 805 = .ok (.iload_n 3, 1) := by decide +kernel
theorem dL_law_806 : decode cL_law 806 = .ok (.iconst 1, 1) := by decide +kernel
theorem dL_law_807 : decode cL_law 807 = .ok (.iadd, 1) := by decide +kernel
theorem dL_law_808 : decode cL_law 808 = .ok (.iaload, 1) := by decide +kernel
theorem dL_law_809 : decode cL_law 809 = .ok (.invokevirtual 102, 3) := by decide +kernel
theorem dL_law_812 : decode cL_law 812 = .ok (.if_icmp .eq 240, 3) := by decide +kernel
theorem dL_law_815 : decode cL_law 815 = .ok (.iconst 0, 1) := by decide +kernel
theorem dL_law_816 : decode cL_law 816 = .ok (.ireturn, 1) := by decide +kernel
theorem dL_law_817 : decode cL_law 817 = .ok (.aload_n 1, 1) := by decide +kernel
theorem dL_law_818 : decode cL_law 818 = .ok (.aload_n 0, 1) := by decide +kernel
theorem dL_law_819 : decode cL_law 819 = .ok (.iload_n 3, 1) := by decide +kernel
theorem dL_law_820 : decode cL_law 820 = .ok (.iconst 1, 1) := by decide +kernel
theorem dL_law_821 : decode cL_law 821 = .ok (.iadd, 1) := by decide +kernel
theorem dL_law_822 : decode cL_law 822 = .ok (.iaload, 1) := by decide +kernel
theorem dL_law_823 : decode cL_law 823 = .ok (.aload_n 0, 1) := by decide +kernel
theorem dL_law_824 : decode cL_law 824 = .ok (.iload_n 3, 1) := by decide +kernel
theorem dL_law_825 : decode cL_law 825 = .ok (.iconst 2, 1) := by decide +kernel
theorem dL_law_826 : decode cL_law 826 = .ok (.iadd, 1) := by decide +kernel
theorem dL_law_827 : decode cL_law 827 = .ok (.iaload, 1) := by decide +kernel
theorem dL_law_828 : decode cL_law 828 = .ok (.aload_n 0, 1) := by decide +kernel
theorem dL_law_829 : decode cL_law 829 = .ok (.iload_n 3, 1) := by decide +kernel
theorem dL_law_830 : decode cL_law 830 = .ok (.iconst 3, 1) := by decide +kernel
theorem dL_law_831 : decode cL_law 831 = .ok (.iadd, 1) := by decide +kernel
theorem dL_law_832 : decode cL_law 832 = .ok (.iaload, 1) := by decide +kernel
theorem dL_law_833 : decode cL_law 833 = .ok (.invokevirtual 103, 3) := by decide +kernel
theorem dL_law_836 : decode cL_law 836 = .ok (.aload_n 2, 1) := by decide +kernel
theorem dL_law_837 : decode cL_law 837 = .ok (.aload_n 0, 1) := by decide +kernel
theorem dL_law_838 : decode cL_law 838 = .ok (.iload_n 3, 1) := by decide +kernel
theorem dL_law_839 : decode cL_law 839 = .ok (.iconst 1, 1) := by decide +kernel
theorem dL_law_840 : decode cL_law 840 = .ok (.iadd, 1) := by decide +kernel
theorem dL_law_841 : decode cL_law 841 = .ok (.iaload, 1) := by decide +kernel
theorem dL_law_842 : decode cL_law 842 = .ok (.aload_n 0, 1) := by decide +kernel
theorem dL_law_843 : decode cL_law 843 = .ok (.iload_n 3, 1) := by decide +kernel
theorem dL_law_844 : decode cL_law 844 = .ok (.iconst 2, 1) := by decide +kernel
theorem dL_law_845 : decode cL_law 845 = .ok (.iadd, 1) := by decide +kernel
theorem dL_law_846 : decode cL_law 846 = .ok (.iaload, 1) := by decide +kernel
theorem dL_law_847 : decode cL_law 847 = .ok (.aload_n 0, 1) := by decide +kernel
theorem dL_law_848 : decode cL_law 848 = .ok (.iload_n 3, 1) := by decide +kernel
theorem dL_law_849 : decode cL_law 849 = .ok (.iconst 3, 1) := by decide +kernel
theorem dL_law_850 : decode cL_law 850 = .ok (.iadd, 1) := by decide +kernel
theorem dL_law_851 : decode cL_law 851 = .ok (.iaload, 1) := by decide +kernel
theorem dL_law_852 : decode cL_law 852 = .ok (.invokevirtual 106, 3) := by decide +kernel
theorem dL_law_855 : decode cL_law 855 = .ok (.if_icmp .eq 197, 3) := by decide +kernel
theorem dL_law_858 : decode cL_law 858 = .ok (.iconst 0, 1) := by decide +kernel
theorem dL_law_859 : decode cL_law 859 = .ok (.ireturn, 1) := by decide +kernel
theorem dL_law_860 : decode cL_law 860 = .ok (.aload_n 1, 1) := by decide +kernel
theorem dL_law_861 : decode cL_law 861 = .ok (.aload_n 0, 1) := by decide +kernel
theorem dL_law_862 : decode cL_law 862 = .ok (.iload_n 3, 1) := by decide +kernel
theorem dL_law_863 : decode cL_law 863 = .ok (.iconst 1, 1) := by decide +kernel
theorem dL_law_864 : decode cL_law 864 = .ok (.iadd, 1) := by decide +kernel
theorem dL_law_865 : decode cL_law 865 = .ok (.iaload, 1) := by decide +kernel
theorem dL_law_866 : decode cL_law 866 = .ok (.aload_n 0, 1) := by decide +kernel
theorem dL_law_867 : decode cL_law 867 = .ok (.iload_n 3, 1) := by decide +kernel
theorem dL_law_868 : decode cL_law 868 = .ok (.iconst 2, 1) := by decide +kernel
theorem dL_law_869 : decode cL_law 869 = .ok (.iadd, 1) := by decide +kernel
theorem dL_law_870 : decode cL_law 870 = .ok (.iaload, 1) := by decide +kernel
theorem dL_law_871 : decode cL_law 871 = .ok (.aload_n 0, 1) := by decide +kernel
theorem dL_law_872 : decode cL_law 872 = .ok (.iload_n 3, 1) := by decide +kernel
theorem dL_law_873 : decode cL_law 873 = .ok (.iconst 3, 1) := by decide +kernel
theorem dL_law_874 : decode cL_law 874 = .ok (.iadd, 1) := by decide +kernel
theorem dL_law_875 : decode cL_law 875 = .ok (.iaload, 1) := by decide +kernel
theorem dL_law_876 : decode cL_law 876 = .ok (.invokevirtual 107, 3) := by decide +kernel
theorem dL_law_879 : decode cL_law 879 = .ok (.aload_n 2, 1) := by decide +kernel
theorem dL_law_880 : decode cL_law 880 = .ok (.aload_n 0, 1) := by decide +kernel
theorem dL_law_881 : decode cL_law 881 = .ok (.iload_n 3, 1) := by decide +kernel
theorem dL_law_882 : decode cL_law 882 = .ok (.iconst 1, 1) := by decide +kernel
theorem dL_law_883 : decode cL_law 883 = .ok (.iadd, 1) := by decide +kernel
theorem dL_law_884 : decode cL_law 884 = .ok (.iaload, 1) := by decide +kernel
theorem dL_law_885 : decode cL_law 885 = .ok (.aload_n 0, 1) := by decide +kernel
theorem dL_law_886 : decode cL_law 886 = .ok (.iload_n 3, 1) := by decide +kernel
theorem dL_law_887 : decode cL_law 887 = .ok (.iconst 2, 1) := by decide +kernel
theorem dL_law_888 : decode cL_law 888 = .ok (.iadd, 1) := by decide +kernel
theorem dL_law_889 : decode cL_law 889 = .ok (.iaload, 1) := by decide +kernel
theorem dL_law_890 : decode cL_law 890 = .ok (.aload_n 0, 1) := by decide +kernel
theorem dL_law_891 : decode cL_law 891 = .ok (.iload_n 3, 1) := by decide +kernel
theorem dL_law_892 : decode cL_law 892 = .ok (.iconst 3, 1) := by decide +kernel
theorem dL_law_893 : decode cL_law 893 = .ok (.iadd, 1) := by decide +kernel
theorem dL_law_894 : decode cL_law 894 = .ok (.iaload, 1) := by decide +kernel
theorem dL_law_895 : decode cL_law 895 = .ok (.invokevirtual 110, 3) := by decide +kernel
theorem dL_law_898 : decode cL_law 898 = .ok (.if_icmp .eq 154, 3) := by decide +kernel
theorem dL_law_901 : decode cL_law 901 = .ok (.iconst 0, 1) := by decide +kernel
theorem dL_law_902 : decode cL_law 902 = .ok (.ireturn, 1) := by decide +kernel
theorem dL_law_903 : decode cL_law 903 = .ok (.aload_n 1, 1) := by decide +kernel
theorem dL_law_904 : decode cL_law 904 = .ok (.aload_n 0, 1) := by decide +kernel
theorem dL_law_905 : decode cL_law 905 = .ok (.iload_n 3, 1) := by decide +kernel
theorem dL_law_906 : decode cL_law 906 = .ok (.iconst 1, 1) := by decide +kernel
theorem dL_law_907 : decode cL_law 907 = .ok (.iadd, 1) := by decide +kernel
theorem dL_law_908 : decode cL_law 908 = .ok (.iaload, 1) := by decide +kernel
theorem dL_law_909 : decode cL_law 909 = .ok (.aload_n 0, 1) := by decide +kernel
theorem dL_law_910 : decode cL_law 910 = .ok (.iload_n 3, 1) := by decide +kernel
theorem dL_law_911 : decode cL_law 911 = .ok (.iconst 2, 1) := by decide +kernel
theorem dL_law_912 : decode cL_law 912 = .ok (.iadd, 1) := by decide +kernel
theorem dL_law_913 : decode cL_law 913 = .ok (.iaload, 1) := by decide +kernel
theorem dL_law_914 : decode cL_law 914 = .ok (.aload_n 0, 1) := by decide +kernel
theorem dL_law_915 : decode cL_law 915 = .ok (.iload_n 3, 1) := by decide +kernel
theorem dL_law_916 : decode cL_law 916 = .ok (.iconst 3, 1) := by decide +kernel
theorem dL_law_917 : decode cL_law 917 = .ok (.iadd, 1) := by decide +kernel
theorem dL_law_918 : decode cL_law 918 = .ok (.iaload, 1) := by decide +kernel
theorem dL_law_919 : decode cL_law 919 = .ok (.aload_n 0, 1) := by decide +kernel
theorem dL_law_920 : decode cL_law 920 = .ok (.iload_n 3, 1) := by decide +kernel
theorem dL_law_921 : decode cL_law 921 = .ok (.iconst 4, 1) := by decide +kernel
theorem dL_law_922 : decode cL_law 922 = .ok (.iadd, 1) := by decide +kernel
theorem dL_law_923 : decode cL_law 923 = .ok (.iaload, 1) := by decide +kernel
theorem dL_law_924 : decode cL_law 924 = .ok (.aload_n 0, 1) := by decide +kernel
theorem dL_law_925 : decode cL_law 925 = .ok (.iload_n 3, 1) := by decide +kernel
theorem dL_law_926 : decode cL_law 926 = .ok (.iconst 5, 1) := by decide +kernel
theorem dL_law_927 : decode cL_law 927 = .ok (.iadd, 1) := by decide +kernel
theorem dL_law_928 : decode cL_law 928 = .ok (.iaload, 1) := by decide +kernel
theorem dL_law_929 : decode cL_law 929 = .ok (.invokevirtual 111, 3) := by decide +kernel
theorem dL_law_932 : decode cL_law 932 = .ok (.aload_n 2, 1) := by decide +kernel
theorem dL_law_933 : decode cL_law 933 = .ok (.aload_n 0, 1) := by decide +kernel
theorem dL_law_934 : decode cL_law 934 = .ok (.iload_n 3, 1) := by decide +kernel
theorem dL_law_935 : decode cL_law 935 = .ok (.iconst 1, 1) := by decide +kernel
theorem dL_law_936 : decode cL_law 936 = .ok (.iadd, 1) := by decide +kernel
theorem dL_law_937 : decode cL_law 937 = .ok (.iaload, 1) := by decide +kernel
theorem dL_law_938 : decode cL_law 938 = .ok (.aload_n 0, 1) := by decide +kernel
theorem dL_law_939 : decode cL_law 939 = .ok (.iload_n 3, 1) := by decide +kernel
theorem dL_law_940 : decode cL_law 940 = .ok (.iconst 2, 1) := by decide +kernel
theorem dL_law_941 : decode cL_law 941 = .ok (.iadd, 1) := by decide +kernel
theorem dL_law_942 : decode cL_law 942 = .ok (.iaload, 1) := by decide +kernel
theorem dL_law_943 : decode cL_law 943 = .ok (.aload_n 0, 1) := by decide +kernel
theorem dL_law_944 : decode cL_law 944 = .ok (.iload_n 3, 1) := by decide +kernel
theorem dL_law_945 : decode cL_law 945 = .ok (.iconst 3, 1) := by decide +kernel
theorem dL_law_946 : decode cL_law 946 = .ok (.iadd, 1) := by decide +kernel
theorem dL_law_947 : decode cL_law 947 = .ok (.iaload, 1) := by decide +kernel
theorem dL_law_948 : decode cL_law 948 = .ok (.aload_n 0, 1) := by decide +kernel
theorem dL_law_949 : decode cL_law 949 = .ok (.iload_n 3, 1) := by decide +kernel
theorem dL_law_950 : decode cL_law 950 = .ok (.iconst 4, 1) := by decide +kernel
theorem dL_law_951 : decode cL_law 951 = .ok (.iadd, 1) := by decide +kernel
theorem dL_law_952 : decode cL_law 952 = .ok (.iaload, 1) := by decide +kernel
theorem dL_law_953 : decode cL_law 953 = .ok (.aload_n 0, 1) := by decide +kernel
theorem dL_law_954 : decode cL_law 954 = .ok (.iload_n 3, 1) := by decide +kernel
theorem dL_law_955 : decode cL_law 955 = .ok (.iconst 5, 1) := by decide +kernel
theorem dL_law_956 : decode cL_law 956 = .ok (.iadd, 1) := by decide +kernel
theorem dL_law_957 : decode cL_law 957 = .ok (.iaload, 1) := by decide +kernel
theorem dL_law_958 : decode cL_law 958 = .ok (.invokevirtual 115, 3) := by decide +kernel
theorem dL_law_961 : decode cL_law 961 = .ok (.if_icmp .eq 91, 3) := by decide +kernel
theorem dL_law_964 : decode cL_law 964 = .ok (.iconst 0, 1) := by decide +kernel
theorem dL_law_965 : decode cL_law 965 = .ok (.ireturn, 1) := by decide +kernel
theorem dL_law_966 : decode cL_law 966 = .ok (.aload_n 1, 1) := by decide +kernel
theorem dL_law_967 : decode cL_law 967 = .ok (.aload_n 0, 1) := by decide +kernel
theorem dL_law_968 : decode cL_law 968 = .ok (.iload_n 3, 1) := by decide +kernel
theorem dL_law_969 : decode cL_law 969 = .ok (.iconst 1, 1) := by decide +kernel
theorem dL_law_970 : decode cL_law 970 = .ok (.iadd, 1) := by decide +kernel
theorem dL_law_971 : decode cL_law 971 = .ok (.iaload, 1) := by decide +kernel
theorem dL_law_972 : decode cL_law 972 = .ok (.aload_n 0, 1) := by decide +kernel
theorem dL_law_973 : decode cL_law 973 = .ok (.iload_n 3, 1) := by decide +kernel
theorem dL_law_974 : decode cL_law 974 = .ok (.iconst 2, 1) := by decide +kernel
theorem dL_law_975 : decode cL_law 975 = .ok (.iadd, 1) := by decide +kernel
theorem dL_law_976 : decode cL_law 976 = .ok (.iaload, 1) := by decide +kernel
theorem dL_law_977 : decode cL_law 977 = .ok (.aload_n 0, 1) := by decide +kernel
theorem dL_law_978 : decode cL_law 978 = .ok (.iload_n 3, 1) := by decide +kernel
theorem dL_law_979 : decode cL_law 979 = .ok (.iconst 3, 1) := by decide +kernel
theorem dL_law_980 : decode cL_law 980 = .ok (.iadd, 1) := by decide +kernel
theorem dL_law_981 : decode cL_law 981 = .ok (.iaload, 1) := by decide +kernel
theorem dL_law_982 : decode cL_law 982 = .ok (.aload_n 0, 1) := by decide +kernel
theorem dL_law_983 : decode cL_law 983 = .ok (.iload_n 3, 1) := by decide +kernel
theorem dL_law_984 : decode cL_law 984 = .ok (.iconst 4, 1) := by decide +kernel
theorem dL_law_985 : decode cL_law 985 = .ok (.iadd, 1) := by decide +kernel
theorem dL_law_986 : decode cL_law 986 = .ok (.iaload, 1) := by decide +kernel
theorem dL_law_987 : decode cL_law 987 = .ok (.invokevirtual 116, 3) := by decide +kernel
theorem dL_law_990 : decode cL_law 990 = .ok (.aload_n 2, 1) := by decide +kernel
theorem dL_law_991 : decode cL_law 991 = .ok (.aload_n 0, 1) := by decide +kernel
theorem dL_law_992 : decode cL_law 992 = .ok (.iload_n 3, 1) := by decide +kernel
theorem dL_law_993 : decode cL_law 993 = .ok (.iconst 1, 1) := by decide +kernel
theorem dL_law_994 : decode cL_law 994 = .ok (.iadd, 1) := by decide +kernel
theorem dL_law_995 : decode cL_law 995 = .ok (.iaload, 1) := by decide +kernel
theorem dL_law_996 : decode cL_law 996 = .ok (.aload_n 0, 1) := by decide +kernel
theorem dL_law_997 : decode cL_law 997 = .ok (.iload_n 3, 1) := by decide +kernel
theorem dL_law_998 : decode cL_law 998 = .ok (.iconst 2, 1) := by decide +kernel
theorem dL_law_999 : decode cL_law 999 = .ok (.iadd, 1) := by decide +kernel
theorem dL_law_1000 : decode cL_law 1000 = .ok (.iaload, 1) := by decide +kernel
theorem dL_law_1001 : decode cL_law 1001 = .ok (.aload_n 0, 1) := by decide +kernel
theorem dL_law_1002 : decode cL_law 1002 = .ok (.iload_n 3, 1) := by decide +kernel
theorem dL_law_1003 : decode cL_law 1003 = .ok (.iconst 3, 1) := by decide +kernel
theorem dL_law_1004 : decode cL_law 1004 = .ok (.iadd, 1) := by decide +kernel
theorem dL_law_1005 : decode cL_law 1005 = .ok (.iaload, 1) := by decide +kernel
theorem dL_law_1006 : decode cL_law 1006 = .ok (.aload_n 0, 1) := by decide +kernel
theorem dL_law_1007 : decode cL_law 1007 = .ok (.iload_n 3, 1) := by decide +kernel
theorem dL_law_1008 : decode cL_law 1008 = .ok (.iconst 4, 1) := by decide +kernel
theorem dL_law_1009 : decode cL_law 1009 = .ok (.iadd, 1) := by decide +kernel
theorem dL_law_1010 : decode cL_law 1010 = .ok (.iaload, 1) := by decide +kernel
theorem dL_law_1011 : decode cL_law 1011 = .ok (.invokevirtual 120, 3) := by decide +kernel
theorem dL_law_1014 : decode cL_law 1014 = .ok (.if_icmp .eq 38, 3) := by decide +kernel
theorem dL_law_1017 : decode cL_law 1017 = .ok (.iconst 0, 1) := by decide +kernel
theorem dL_law_1018 : decode cL_law 1018 = .ok (.ireturn, 1) := by decide +kernel
theorem dL_law_1019 : decode cL_law 1019 = .ok (.aload_n 1, 1) := by decide +kernel
theorem dL_law_1020 : decode cL_law 1020 = .ok (.aload_n 0, 1) := by decide +kernel
theorem dL_law_1021 : decode cL_law 1021 = .ok (.iload_n 3, 1) := by decide +kernel
theorem dL_law_1022 : decode cL_law 1022 = .ok (.iconst 1, 1) := by decide +kernel
theorem dL_law_1023 : decode cL_law 1023 = .ok (.iadd, 1) := by decide +kernel
theorem dL_law_1024 : decode cL_law 1024 = .ok (.iaload, 1) := by decide +kernel
theorem dL_law_1025 : decode cL_law 1025 = .ok (.aload_n 0, 1) := by decide +kernel
theorem dL_law_1026 : decode cL_law 1026 = .ok (.iload_n 3, 1) := by decide +kernel
theorem dL_law_1027 : decode cL_law 1027 = .ok (.iconst 2, 1) := by decide +kernel
theorem dL_law_1028 : decode cL_law 1028 = .ok (.iadd, 1) := by decide +kernel
theorem dL_law_1029 : decode cL_law 1029 = .ok (.iaload, 1) := by decide +kernel
theorem dL_law_1030 : decode cL_law 1030 = .ok (.invokevirtual 121, 3) := by decide +kernel
theorem dL_law_1033 : decode cL_law 1033 = .ok (.aload_n 2, 1) := by decide +kernel
theorem dL_law_1034 : decode cL_law 1034 = .ok (.aload_n 0, 1) := by decide +kernel
theorem dL_law_1035 : decode cL_law 1035 = .ok (.iload_n 3, 1) := by decide +kernel
theorem dL_law_1036 : decode cL_law 1036 = .ok (.iconst 1, 1) := by decide +kernel
theorem dL_law_1037 : decode cL_law 1037 = .ok (.iadd, 1) := by decide +kernel
theorem dL_law_1038 : decode cL_law 1038 = .ok (.iaload, 1) := by decide +kernel
theorem dL_law_1039 : decode cL_law 1039 = .ok (.aload_n 0, 1) := by decide +kernel
theorem dL_law_1040 : decode cL_law 1040 = .ok (.iload_n 3, 1) := by decide +kernel
theorem dL_law_1041 : decode cL_law 1041 = .ok (.iconst 2, 1) := by decide +kernel
theorem dL_law_1042 : decode cL_law 1042 = .ok (.iadd, 1) := by decide +kernel
theorem dL_law_1043 : decode cL_law 1043 = .ok (.iaload, 1) := by decide +kernel
theorem dL_law_1044 : decode cL_law 1044 = .ok (.invokevirtual 124, 3) := by decide +kernel
theorem dL_law_1047 : decode cL_law 1047 = .ok (.if_icmp .eq 5, 3) := by decide +kernel
theorem dL_law_1050 : decode cL_law 1050 = .ok (.iconst 0, 1) := by decide +kernel
theorem dL_law_1051 : decode cL_law 1051 = .ok (.ireturn, 1) := by decide +kernel
theorem dL_law_1052 : decode cL_law 1052 = .ok (.iinc 3 6, 3) := by decide +kernel
theorem dL_law_1055 : decode cL_law 1055 = .ok (.goto (-1037), 3) := by decide +kernel
theorem dL_law_1058 : decode cL_law 1058 = .ok (.iconst 1, 1) := by decide +kernel
theorem dL_law_1059 : decode cL_law 1059 = .ok (.ireturn, 1) := by decide +kernel
end
