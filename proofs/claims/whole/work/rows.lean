section
-- ===== PART A: goes FIRST, ahead of the names: the tables' words, and 'selects' of the private methods out of them =====
/-- a private method of a class that the tables say can be made, by its rows of tables_1 -/
def lw_okq (q : MethodName × Nat) : Prop := (q.1.cls ≠ "java/lang/invoke/MethodHandle" ∧ q.1.cls ≠ "java/lang/invoke/VarHandle") ∧ Cond.instantiable q.1.cls q.2 ∈ tables_1 ∧ Cond.privateMethod q.1 ∈ tables_1 ∧ Cond.instanceMethod q.1 ∈ tables_1
theorem lw_p0 : lw_okq (⟨"WakeLet", "found", "(I)I"⟩, 10) := ⟨⟨by decide +kernel, by decide +kernel⟩, List.mem_of_getElem? (i := 13) (by decide +kernel), List.mem_of_getElem? (i := 250) (by decide +kernel), List.mem_of_getElem? (i := 251) (by decide +kernel)⟩
theorem lw_p1 : lw_okq (⟨"WakeLet", "unfound", "(I)I"⟩, 10) := ⟨⟨by decide +kernel, by decide +kernel⟩, List.mem_of_getElem? (i := 13) (by decide +kernel), List.mem_of_getElem? (i := 259) (by decide +kernel), List.mem_of_getElem? (i := 260) (by decide +kernel)⟩
theorem lw_p2 : lw_okq (⟨"WakeLet$Tape", "readLaw", "(LWakeLet$Agency;)V"⟩, 5) := ⟨⟨by decide +kernel, by decide +kernel⟩, List.mem_of_getElem? (i := 102) (by decide +kernel), List.mem_of_getElem? (i := 315) (by decide +kernel), List.mem_of_getElem? (i := 316) (by decide +kernel)⟩
theorem lw_p3 : lw_okq (⟨"WakeLet$Tape", "expect", "(I)V"⟩, 5) := ⟨⟨by decide +kernel, by decide +kernel⟩, List.mem_of_getElem? (i := 102) (by decide +kernel), List.mem_of_getElem? (i := 319) (by decide +kernel), List.mem_of_getElem? (i := 320) (by decide +kernel)⟩
theorem lw_p4 : lw_okq (⟨"WakeLet$Tape", "next", "()I"⟩, 5) := ⟨⟨by decide +kernel, by decide +kernel⟩, List.mem_of_getElem? (i := 102) (by decide +kernel), List.mem_of_getElem? (i := 323) (by decide +kernel), List.mem_of_getElem? (i := 324) (by decide +kernel)⟩
theorem lw_p5 : lw_okq (⟨"WakeLet$Tape", "fail", "(II)V"⟩, 5) := ⟨⟨by decide +kernel, by decide +kernel⟩, List.mem_of_getElem? (i := 102) (by decide +kernel), List.mem_of_getElem? (i := 327) (by decide +kernel), List.mem_of_getElem? (i := 328) (by decide +kernel)⟩
theorem lw_p6 : lw_okq (⟨"WakeLet$Tape", "number", "(I)I"⟩, 5) := ⟨⟨by decide +kernel, by decide +kernel⟩, List.mem_of_getElem? (i := 102) (by decide +kernel), List.mem_of_getElem? (i := 331) (by decide +kernel), List.mem_of_getElem? (i := 332) (by decide +kernel)⟩
theorem lw_p7 : lw_okq (⟨"WakeLet$Tape", "readClients", "(LWakeLet$Agency;)V"⟩, 5) := ⟨⟨by decide +kernel, by decide +kernel⟩, List.mem_of_getElem? (i := 102) (by decide +kernel), List.mem_of_getElem? (i := 341) (by decide +kernel), List.mem_of_getElem? (i := 342) (by decide +kernel)⟩
theorem lw_p8 : lw_okq (⟨"WakeLet$Tape", "readClient", "(LWakeLet$Agency;)V"⟩, 5) := ⟨⟨by decide +kernel, by decide +kernel⟩, List.mem_of_getElem? (i := 102) (by decide +kernel), List.mem_of_getElem? (i := 345) (by decide +kernel), List.mem_of_getElem? (i := 346) (by decide +kernel)⟩
theorem lw_p9 : lw_okq (⟨"WakeLet$Tape", "readWakers", "(LWakeLet$Agency;)V"⟩, 5) := ⟨⟨by decide +kernel, by decide +kernel⟩, List.mem_of_getElem? (i := 102) (by decide +kernel), List.mem_of_getElem? (i := 349) (by decide +kernel), List.mem_of_getElem? (i := 350) (by decide +kernel)⟩
theorem lw_p10 : lw_okq (⟨"WakeLet$Tape", "readWaker", "(LWakeLet$Agency;)V"⟩, 5) := ⟨⟨by decide +kernel, by decide +kernel⟩, List.mem_of_getElem? (i := 102) (by decide +kernel), List.mem_of_getElem? (i := 356) (by decide +kernel), List.mem_of_getElem? (i := 357) (by decide +kernel)⟩
theorem lw_p11 : lw_okq (⟨"WakeLet$Tape", "hirer", "(LWakeLet$Agency;)I"⟩, 5) := ⟨⟨by decide +kernel, by decide +kernel⟩, List.mem_of_getElem? (i := 102) (by decide +kernel), List.mem_of_getElem? (i := 360) (by decide +kernel), List.mem_of_getElem? (i := 361) (by decide +kernel)⟩
theorem lw_p12 : lw_okq (⟨"WakeLet$Acts", "startOf", "(I)I"⟩, 3) := ⟨⟨by decide +kernel, by decide +kernel⟩, List.mem_of_getElem? (i := 127) (by decide +kernel), List.mem_of_getElem? (i := 395) (by decide +kernel), List.mem_of_getElem? (i := 396) (by decide +kernel)⟩
theorem lw_p13 : lw_okq (⟨"WakeLet", "foretell", "(I)V"⟩, 10) := ⟨⟨by decide +kernel, by decide +kernel⟩, List.mem_of_getElem? (i := 13) (by decide +kernel), List.mem_of_getElem? (i := 480) (by decide +kernel), List.mem_of_getElem? (i := 481) (by decide +kernel)⟩
theorem lw_p14 : lw_okq (⟨"WakeLet", "firstRest", "(I)I"⟩, 10) := ⟨⟨by decide +kernel, by decide +kernel⟩, List.mem_of_getElem? (i := 13) (by decide +kernel), List.mem_of_getElem? (i := 496) (by decide +kernel), List.mem_of_getElem? (i := 497) (by decide +kernel)⟩
theorem lw_p15 : lw_okq (⟨"WakeLet$Search", "foretellSets", "(LWakeLet$Agency;I)V"⟩, 8) := ⟨⟨by decide +kernel, by decide +kernel⟩, List.mem_of_getElem? (i := 144) (by decide +kernel), List.mem_of_getElem? (i := 521) (by decide +kernel), List.mem_of_getElem? (i := 522) (by decide +kernel)⟩
def lw_privs_1 : List (MethodName × Nat) := [(⟨"WakeLet", "found", "(I)I"⟩, 10), (⟨"WakeLet", "unfound", "(I)I"⟩, 10), (⟨"WakeLet$Tape", "readLaw", "(LWakeLet$Agency;)V"⟩, 5), (⟨"WakeLet$Tape", "expect", "(I)V"⟩, 5), (⟨"WakeLet$Tape", "next", "()I"⟩, 5), (⟨"WakeLet$Tape", "fail", "(II)V"⟩, 5), (⟨"WakeLet$Tape", "number", "(I)I"⟩, 5), (⟨"WakeLet$Tape", "readClients", "(LWakeLet$Agency;)V"⟩, 5), (⟨"WakeLet$Tape", "readClient", "(LWakeLet$Agency;)V"⟩, 5), (⟨"WakeLet$Tape", "readWakers", "(LWakeLet$Agency;)V"⟩, 5), (⟨"WakeLet$Tape", "readWaker", "(LWakeLet$Agency;)V"⟩, 5), (⟨"WakeLet$Tape", "hirer", "(LWakeLet$Agency;)I"⟩, 5), (⟨"WakeLet$Acts", "startOf", "(I)I"⟩, 3), (⟨"WakeLet", "foretell", "(I)V"⟩, 10), (⟨"WakeLet", "firstRest", "(I)I"⟩, 10), (⟨"WakeLet$Search", "foretellSets", "(LWakeLet$Agency;I)V"⟩, 8)]
theorem lw_r1 : ∀ q ∈ lw_privs_1, lw_okq q := List.forall_mem_cons.mpr ⟨lw_p0, List.forall_mem_cons.mpr ⟨lw_p1, List.forall_mem_cons.mpr ⟨lw_p2, List.forall_mem_cons.mpr ⟨lw_p3, List.forall_mem_cons.mpr ⟨lw_p4, List.forall_mem_cons.mpr ⟨lw_p5, List.forall_mem_cons.mpr ⟨lw_p6, List.forall_mem_cons.mpr ⟨lw_p7, List.forall_mem_cons.mpr ⟨lw_p8, List.forall_mem_cons.mpr ⟨lw_p9, List.forall_mem_cons.mpr ⟨lw_p10, List.forall_mem_cons.mpr ⟨lw_p11, List.forall_mem_cons.mpr ⟨lw_p12, List.forall_mem_cons.mpr ⟨lw_p13, List.forall_mem_cons.mpr ⟨lw_p14, List.forall_mem_cons.mpr ⟨lw_p15, fun _ h => absurd h List.not_mem_nil⟩⟩⟩⟩⟩⟩⟩⟩⟩⟩⟩⟩⟩⟩⟩⟩
theorem lw_p16 : lw_okq (⟨"WakeLet$Search", "findTaken", "(LWakeLet$Agency;II)V"⟩, 8) := ⟨⟨by decide +kernel, by decide +kernel⟩, List.mem_of_getElem? (i := 144) (by decide +kernel), List.mem_of_getElem? (i := 525) (by decide +kernel), List.mem_of_getElem? (i := 526) (by decide +kernel)⟩
theorem lw_p17 : lw_okq (⟨"WakeLet$Search", "tryWay", "(LWakeLet$Agency;I)I"⟩, 8) := ⟨⟨by decide +kernel, by decide +kernel⟩, List.mem_of_getElem? (i := 144) (by decide +kernel), List.mem_of_getElem? (i := 539) (by decide +kernel), List.mem_of_getElem? (i := 540) (by decide +kernel)⟩
theorem lw_p18 : lw_okq (⟨"WakeLet$Search", "weightBehind", "(I)I"⟩, 8) := ⟨⟨by decide +kernel, by decide +kernel⟩, List.mem_of_getElem? (i := 144) (by decide +kernel), List.mem_of_getElem? (i := 544) (by decide +kernel), List.mem_of_getElem? (i := 545) (by decide +kernel)⟩
theorem lw_p19 : lw_okq (⟨"WakeLet$Search", "choose", "()V"⟩, 8) := ⟨⟨by decide +kernel, by decide +kernel⟩, List.mem_of_getElem? (i := 144) (by decide +kernel), List.mem_of_getElem? (i := 548) (by decide +kernel), List.mem_of_getElem? (i := 549) (by decide +kernel)⟩
theorem lw_p20 : lw_okq (⟨"WakeLet", "hirerFound", "(I)I"⟩, 10) := ⟨⟨by decide +kernel, by decide +kernel⟩, List.mem_of_getElem? (i := 13) (by decide +kernel), List.mem_of_getElem? (i := 553) (by decide +kernel), List.mem_of_getElem? (i := 554) (by decide +kernel)⟩
theorem lw_p21 : lw_okq (⟨"WakeLet$Search", "restAll", "(LWakeLet$Agency;I)Z"⟩, 8) := ⟨⟨by decide +kernel, by decide +kernel⟩, List.mem_of_getElem? (i := 144) (by decide +kernel), List.mem_of_getElem? (i := 566) (by decide +kernel), List.mem_of_getElem? (i := 567) (by decide +kernel)⟩
theorem lw_p22 : lw_okq (⟨"WakeLet", "isGuess", "(II)Z"⟩, 10) := ⟨⟨by decide +kernel, by decide +kernel⟩, List.mem_of_getElem? (i := 13) (by decide +kernel), List.mem_of_getElem? (i := 574) (by decide +kernel), List.mem_of_getElem? (i := 575) (by decide +kernel)⟩
theorem lw_p23 : lw_okq (⟨"WakeLet", "wouldShow", "(IIILWakeLet$Row;II)Z"⟩, 10) := ⟨⟨by decide +kernel, by decide +kernel⟩, List.mem_of_getElem? (i := 13) (by decide +kernel), List.mem_of_getElem? (i := 578) (by decide +kernel), List.mem_of_getElem? (i := 579) (by decide +kernel)⟩
theorem lw_p24 : lw_okq (⟨"WakeLet", "waysToBe", "(II)I"⟩, 10) := ⟨⟨by decide +kernel, by decide +kernel⟩, List.mem_of_getElem? (i := 13) (by decide +kernel), List.mem_of_getElem? (i := 592) (by decide +kernel), List.mem_of_getElem? (i := 593) (by decide +kernel)⟩
theorem lw_p25 : lw_okq (⟨"WakeLet$Asks", "askAnew", "(LWakeLet$Agency;III)I"⟩, 2) := ⟨⟨by decide +kernel, by decide +kernel⟩, List.mem_of_getElem? (i := 179) (by decide +kernel), List.mem_of_getElem? (i := 644) (by decide +kernel), List.mem_of_getElem? (i := 645) (by decide +kernel)⟩
theorem lw_p26 : lw_okq (⟨"WakeLet$Asks", "runBody", "(LWakeLet$Agency;III)I"⟩, 2) := ⟨⟨by decide +kernel, by decide +kernel⟩, List.mem_of_getElem? (i := 179) (by decide +kernel), List.mem_of_getElem? (i := 659) (by decide +kernel), List.mem_of_getElem? (i := 660) (by decide +kernel)⟩
theorem lw_p27 : lw_okq (⟨"WakeLet$Asks", "leave", "(I)V"⟩, 2) := ⟨⟨by decide +kernel, by decide +kernel⟩, List.mem_of_getElem? (i := 179) (by decide +kernel), List.mem_of_getElem? (i := 663) (by decide +kernel), List.mem_of_getElem? (i := 664) (by decide +kernel)⟩
theorem lw_p28 : lw_okq (⟨"WakeLet", "rowsThere", "()I"⟩, 10) := ⟨⟨by decide +kernel, by decide +kernel⟩, List.mem_of_getElem? (i := 13) (by decide +kernel), List.mem_of_getElem? (i := 675) (by decide +kernel), List.mem_of_getElem? (i := 676) (by decide +kernel)⟩
theorem lw_p29 : lw_okq (⟨"WakeLetModel", "found", "(I)I"⟩, 17) := ⟨⟨by decide +kernel, by decide +kernel⟩, List.mem_of_getElem? (i := 687) (by decide +kernel), List.mem_of_getElem? (i := 759) (by decide +kernel), List.mem_of_getElem? (i := 760) (by decide +kernel)⟩
theorem lw_p30 : lw_okq (⟨"WakeLetModel", "good", "(I)I"⟩, 17) := ⟨⟨by decide +kernel, by decide +kernel⟩, List.mem_of_getElem? (i := 687) (by decide +kernel), List.mem_of_getElem? (i := 764) (by decide +kernel), List.mem_of_getElem? (i := 765) (by decide +kernel)⟩
theorem lw_p31 : lw_okq (⟨"WakeLetModel", "takesLaw", "()Z"⟩, 17) := ⟨⟨by decide +kernel, by decide +kernel⟩, List.mem_of_getElem? (i := 687) (by decide +kernel), List.mem_of_getElem? (i := 793) (by decide +kernel), List.mem_of_getElem? (i := 794) (by decide +kernel)⟩
def lw_privs_2 : List (MethodName × Nat) := [(⟨"WakeLet$Search", "findTaken", "(LWakeLet$Agency;II)V"⟩, 8), (⟨"WakeLet$Search", "tryWay", "(LWakeLet$Agency;I)I"⟩, 8), (⟨"WakeLet$Search", "weightBehind", "(I)I"⟩, 8), (⟨"WakeLet$Search", "choose", "()V"⟩, 8), (⟨"WakeLet", "hirerFound", "(I)I"⟩, 10), (⟨"WakeLet$Search", "restAll", "(LWakeLet$Agency;I)Z"⟩, 8), (⟨"WakeLet", "isGuess", "(II)Z"⟩, 10), (⟨"WakeLet", "wouldShow", "(IIILWakeLet$Row;II)Z"⟩, 10), (⟨"WakeLet", "waysToBe", "(II)I"⟩, 10), (⟨"WakeLet$Asks", "askAnew", "(LWakeLet$Agency;III)I"⟩, 2), (⟨"WakeLet$Asks", "runBody", "(LWakeLet$Agency;III)I"⟩, 2), (⟨"WakeLet$Asks", "leave", "(I)V"⟩, 2), (⟨"WakeLet", "rowsThere", "()I"⟩, 10), (⟨"WakeLetModel", "found", "(I)I"⟩, 17), (⟨"WakeLetModel", "good", "(I)I"⟩, 17), (⟨"WakeLetModel", "takesLaw", "()Z"⟩, 17)]
theorem lw_r2 : ∀ q ∈ lw_privs_2, lw_okq q := List.forall_mem_cons.mpr ⟨lw_p16, List.forall_mem_cons.mpr ⟨lw_p17, List.forall_mem_cons.mpr ⟨lw_p18, List.forall_mem_cons.mpr ⟨lw_p19, List.forall_mem_cons.mpr ⟨lw_p20, List.forall_mem_cons.mpr ⟨lw_p21, List.forall_mem_cons.mpr ⟨lw_p22, List.forall_mem_cons.mpr ⟨lw_p23, List.forall_mem_cons.mpr ⟨lw_p24, List.forall_mem_cons.mpr ⟨lw_p25, List.forall_mem_cons.mpr ⟨lw_p26, List.forall_mem_cons.mpr ⟨lw_p27, List.forall_mem_cons.mpr ⟨lw_p28, List.forall_mem_cons.mpr ⟨lw_p29, List.forall_mem_cons.mpr ⟨lw_p30, List.forall_mem_cons.mpr ⟨lw_p31, fun _ h => absurd h List.not_mem_nil⟩⟩⟩⟩⟩⟩⟩⟩⟩⟩⟩⟩⟩⟩⟩⟩
theorem lw_p32 : lw_okq (⟨"WakeLetModel", "takes", "(I)Z"⟩, 17) := ⟨⟨by decide +kernel, by decide +kernel⟩, List.mem_of_getElem? (i := 687) (by decide +kernel), List.mem_of_getElem? (i := 797) (by decide +kernel), List.mem_of_getElem? (i := 798) (by decide +kernel)⟩
theorem lw_p33 : lw_okq (⟨"WakeLetModel", "byteAt", "(I)I"⟩, 17) := ⟨⟨by decide +kernel, by decide +kernel⟩, List.mem_of_getElem? (i := 687) (by decide +kernel), List.mem_of_getElem? (i := 801) (by decide +kernel), List.mem_of_getElem? (i := 802) (by decide +kernel)⟩
theorem lw_p34 : lw_okq (⟨"WakeLetModel", "fails", "(II)Z"⟩, 17) := ⟨⟨by decide +kernel, by decide +kernel⟩, List.mem_of_getElem? (i := 687) (by decide +kernel), List.mem_of_getElem? (i := 805) (by decide +kernel), List.mem_of_getElem? (i := 806) (by decide +kernel)⟩
theorem lw_p35 : lw_okq (⟨"WakeLetModel", "takesNumber", "(III)Z"⟩, 17) := ⟨⟨by decide +kernel, by decide +kernel⟩, List.mem_of_getElem? (i := 687) (by decide +kernel), List.mem_of_getElem? (i := 809) (by decide +kernel), List.mem_of_getElem? (i := 810) (by decide +kernel)⟩
theorem lw_p36 : lw_okq (⟨"WakeLetModel", "takesMore", "()Z"⟩, 17) := ⟨⟨by decide +kernel, by decide +kernel⟩, List.mem_of_getElem? (i := 687) (by decide +kernel), List.mem_of_getElem? (i := 815) (by decide +kernel), List.mem_of_getElem? (i := 816) (by decide +kernel)⟩
theorem lw_p37 : lw_okq (⟨"WakeLetModel", "takesClient", "()Z"⟩, 17) := ⟨⟨by decide +kernel, by decide +kernel⟩, List.mem_of_getElem? (i := 687) (by decide +kernel), List.mem_of_getElem? (i := 822) (by decide +kernel), List.mem_of_getElem? (i := 823) (by decide +kernel)⟩
theorem lw_p38 : lw_okq (⟨"WakeLetModel", "takesWaker", "(I)Z"⟩, 17) := ⟨⟨by decide +kernel, by decide +kernel⟩, List.mem_of_getElem? (i := 687) (by decide +kernel), List.mem_of_getElem? (i := 826) (by decide +kernel), List.mem_of_getElem? (i := 827) (by decide +kernel)⟩
theorem lw_p39 : lw_okq (⟨"WakeLetModel", "copyAll", "(II)V"⟩, 17) := ⟨⟨by decide +kernel, by decide +kernel⟩, List.mem_of_getElem? (i := 687) (by decide +kernel), List.mem_of_getElem? (i := 831) (by decide +kernel), List.mem_of_getElem? (i := 832) (by decide +kernel)⟩
theorem lw_p40 : lw_okq (⟨"WakeLetModel", "isAgency", "()Z"⟩, 17) := ⟨⟨by decide +kernel, by decide +kernel⟩, List.mem_of_getElem? (i := 687) (by decide +kernel), List.mem_of_getElem? (i := 843) (by decide +kernel), List.mem_of_getElem? (i := 844) (by decide +kernel)⟩
theorem lw_p41 : lw_okq (⟨"WakeLetModel", "minds", "()V"⟩, 17) := ⟨⟨by decide +kernel, by decide +kernel⟩, List.mem_of_getElem? (i := 687) (by decide +kernel), List.mem_of_getElem? (i := 849) (by decide +kernel), List.mem_of_getElem? (i := 850) (by decide +kernel)⟩
theorem lw_p42 : lw_okq (⟨"WakeLetModel", "passes", "(II)V"⟩, 17) := ⟨⟨by decide +kernel, by decide +kernel⟩, List.mem_of_getElem? (i := 687) (by decide +kernel), List.mem_of_getElem? (i := 853) (by decide +kernel), List.mem_of_getElem? (i := 854) (by decide +kernel)⟩
theorem lw_p43 : lw_okq (⟨"WakeLetModel", "lighter", "(III)I"⟩, 17) := ⟨⟨by decide +kernel, by decide +kernel⟩, List.mem_of_getElem? (i := 687) (by decide +kernel), List.mem_of_getElem? (i := 857) (by decide +kernel), List.mem_of_getElem? (i := 858) (by decide +kernel)⟩
theorem lw_p44 : lw_okq (⟨"WakeLetModel", "isFit", "(II)Z"⟩, 17) := ⟨⟨by decide +kernel, by decide +kernel⟩, List.mem_of_getElem? (i := 687) (by decide +kernel), List.mem_of_getElem? (i := 864) (by decide +kernel), List.mem_of_getElem? (i := 865) (by decide +kernel)⟩
theorem lw_p45 : lw_okq (⟨"WakeLetModel", "lies", "(II)I"⟩, 17) := ⟨⟨by decide +kernel, by decide +kernel⟩, List.mem_of_getElem? (i := 687) (by decide +kernel), List.mem_of_getElem? (i := 868) (by decide +kernel), List.mem_of_getElem? (i := 869) (by decide +kernel)⟩
theorem lw_p46 : lw_okq (⟨"WakeLetModel", "restsIn", "(I)I"⟩, 17) := ⟨⟨by decide +kernel, by decide +kernel⟩, List.mem_of_getElem? (i := 687) (by decide +kernel), List.mem_of_getElem? (i := 875) (by decide +kernel), List.mem_of_getElem? (i := 876) (by decide +kernel)⟩
theorem lw_p47 : lw_okq (⟨"WakeLetModel", "isWaker", "(I)Z"⟩, 17) := ⟨⟨by decide +kernel, by decide +kernel⟩, List.mem_of_getElem? (i := 687) (by decide +kernel), List.mem_of_getElem? (i := 883) (by decide +kernel), List.mem_of_getElem? (i := 884) (by decide +kernel)⟩
def lw_privs_3 : List (MethodName × Nat) := [(⟨"WakeLetModel", "takes", "(I)Z"⟩, 17), (⟨"WakeLetModel", "byteAt", "(I)I"⟩, 17), (⟨"WakeLetModel", "fails", "(II)Z"⟩, 17), (⟨"WakeLetModel", "takesNumber", "(III)Z"⟩, 17), (⟨"WakeLetModel", "takesMore", "()Z"⟩, 17), (⟨"WakeLetModel", "takesClient", "()Z"⟩, 17), (⟨"WakeLetModel", "takesWaker", "(I)Z"⟩, 17), (⟨"WakeLetModel", "copyAll", "(II)V"⟩, 17), (⟨"WakeLetModel", "isAgency", "()Z"⟩, 17), (⟨"WakeLetModel", "minds", "()V"⟩, 17), (⟨"WakeLetModel", "passes", "(II)V"⟩, 17), (⟨"WakeLetModel", "lighter", "(III)I"⟩, 17), (⟨"WakeLetModel", "isFit", "(II)Z"⟩, 17), (⟨"WakeLetModel", "lies", "(II)I"⟩, 17), (⟨"WakeLetModel", "restsIn", "(I)I"⟩, 17), (⟨"WakeLetModel", "isWaker", "(I)Z"⟩, 17)]
theorem lw_r3 : ∀ q ∈ lw_privs_3, lw_okq q := List.forall_mem_cons.mpr ⟨lw_p32, List.forall_mem_cons.mpr ⟨lw_p33, List.forall_mem_cons.mpr ⟨lw_p34, List.forall_mem_cons.mpr ⟨lw_p35, List.forall_mem_cons.mpr ⟨lw_p36, List.forall_mem_cons.mpr ⟨lw_p37, List.forall_mem_cons.mpr ⟨lw_p38, List.forall_mem_cons.mpr ⟨lw_p39, List.forall_mem_cons.mpr ⟨lw_p40, List.forall_mem_cons.mpr ⟨lw_p41, List.forall_mem_cons.mpr ⟨lw_p42, List.forall_mem_cons.mpr ⟨lw_p43, List.forall_mem_cons.mpr ⟨lw_p44, List.forall_mem_cons.mpr ⟨lw_p45, List.forall_mem_cons.mpr ⟨lw_p46, List.forall_mem_cons.mpr ⟨lw_p47, fun _ h => absurd h List.not_mem_nil⟩⟩⟩⟩⟩⟩⟩⟩⟩⟩⟩⟩⟩⟩⟩⟩
theorem lw_p48 : lw_okq (⟨"WakeLetModel", "isClient", "(I)Z"⟩, 17) := ⟨⟨by decide +kernel, by decide +kernel⟩, List.mem_of_getElem? (i := 687) (by decide +kernel), List.mem_of_getElem? (i := 887) (by decide +kernel), List.mem_of_getElem? (i := 888) (by decide +kernel)⟩
theorem lw_p49 : lw_okq (⟨"WakeLetModel", "triesFrom", "(I)V"⟩, 17) := ⟨⟨by decide +kernel, by decide +kernel⟩, List.mem_of_getElem? (i := 687) (by decide +kernel), List.mem_of_getElem? (i := 921) (by decide +kernel), List.mem_of_getElem? (i := 922) (by decide +kernel)⟩
theorem lw_p50 : lw_okq (⟨"WakeLetModel", "tries", "(I)V"⟩, 17) := ⟨⟨by decide +kernel, by decide +kernel⟩, List.mem_of_getElem? (i := 687) (by decide +kernel), List.mem_of_getElem? (i := 925) (by decide +kernel), List.mem_of_getElem? (i := 926) (by decide +kernel)⟩
theorem lw_p51 : lw_okq (⟨"WakeLetModel", "firstOf", "(I)I"⟩, 17) := ⟨⟨by decide +kernel, by decide +kernel⟩, List.mem_of_getElem? (i := 687) (by decide +kernel), List.mem_of_getElem? (i := 941) (by decide +kernel), List.mem_of_getElem? (i := 942) (by decide +kernel)⟩
theorem lw_p52 : lw_okq (⟨"WakeLetModel", "isSet", "(I)Z"⟩, 17) := ⟨⟨by decide +kernel, by decide +kernel⟩, List.mem_of_getElem? (i := 687) (by decide +kernel), List.mem_of_getElem? (i := 950) (by decide +kernel), List.mem_of_getElem? (i := 951) (by decide +kernel)⟩
theorem lw_p53 : lw_okq (⟨"WakeLetModel", "allLets", "()I"⟩, 17) := ⟨⟨by decide +kernel, by decide +kernel⟩, List.mem_of_getElem? (i := 687) (by decide +kernel), List.mem_of_getElem? (i := 964) (by decide +kernel), List.mem_of_getElem? (i := 965) (by decide +kernel)⟩
theorem lw_p54 : lw_okq (⟨"WakeLetModel", "triesLets", "(II)I"⟩, 17) := ⟨⟨by decide +kernel, by decide +kernel⟩, List.mem_of_getElem? (i := 687) (by decide +kernel), List.mem_of_getElem? (i := 968) (by decide +kernel), List.mem_of_getElem? (i := 969) (by decide +kernel)⟩
theorem lw_p55 : lw_okq (⟨"WakeLetModel", "letBy", "(II)I"⟩, 17) := ⟨⟨by decide +kernel, by decide +kernel⟩, List.mem_of_getElem? (i := 687) (by decide +kernel), List.mem_of_getElem? (i := 972) (by decide +kernel), List.mem_of_getElem? (i := 973) (by decide +kernel)⟩
theorem lw_p56 : lw_okq (⟨"WakeLetModel", "weightsIn", "(I)I"⟩, 17) := ⟨⟨by decide +kernel, by decide +kernel⟩, List.mem_of_getElem? (i := 687) (by decide +kernel), List.mem_of_getElem? (i := 979) (by decide +kernel), List.mem_of_getElem? (i := 980) (by decide +kernel)⟩
theorem lw_p57 : lw_okq (⟨"WakeLetModel", "against", "(III)I"⟩, 17) := ⟨⟨by decide +kernel, by decide +kernel⟩, List.mem_of_getElem? (i := 687) (by decide +kernel), List.mem_of_getElem? (i := 993) (by decide +kernel), List.mem_of_getElem? (i := 994) (by decide +kernel)⟩
theorem lw_p58 : lw_okq (⟨"WakeLetModel", "isSo", "(II)Z"⟩, 17) := ⟨⟨by decide +kernel, by decide +kernel⟩, List.mem_of_getElem? (i := 687) (by decide +kernel), List.mem_of_getElem? (i := 997) (by decide +kernel), List.mem_of_getElem? (i := 998) (by decide +kernel)⟩
theorem lw_p59 : lw_okq (⟨"WakeLetModel", "size", "(I)I"⟩, 17) := ⟨⟨by decide +kernel, by decide +kernel⟩, List.mem_of_getElem? (i := 687) (by decide +kernel), List.mem_of_getElem? (i := 1033) (by decide +kernel), List.mem_of_getElem? (i := 1034) (by decide +kernel)⟩
theorem lw_p60 : lw_okq (⟨"WakeLetModel", "leaves", "(I)V"⟩, 17) := ⟨⟨by decide +kernel, by decide +kernel⟩, List.mem_of_getElem? (i := 687) (by decide +kernel), List.mem_of_getElem? (i := 1037) (by decide +kernel), List.mem_of_getElem? (i := 1038) (by decide +kernel)⟩
theorem lw_p61 : lw_okq (⟨"WakeLetModel", "sizeOwl", "(I)I"⟩, 17) := ⟨⟨by decide +kernel, by decide +kernel⟩, List.mem_of_getElem? (i := 687) (by decide +kernel), List.mem_of_getElem? (i := 1041) (by decide +kernel), List.mem_of_getElem? (i := 1042) (by decide +kernel)⟩
theorem lw_p62 : lw_okq (⟨"WakeLetModel", "mark", "(I)I"⟩, 17) := ⟨⟨by decide +kernel, by decide +kernel⟩, List.mem_of_getElem? (i := 687) (by decide +kernel), List.mem_of_getElem? (i := 1045) (by decide +kernel), List.mem_of_getElem? (i := 1046) (by decide +kernel)⟩
theorem lw_p63 : lw_okq (⟨"WakeLetModel", "markOwl", "(I)I"⟩, 17) := ⟨⟨by decide +kernel, by decide +kernel⟩, List.mem_of_getElem? (i := 687) (by decide +kernel), List.mem_of_getElem? (i := 1049) (by decide +kernel), List.mem_of_getElem? (i := 1050) (by decide +kernel)⟩
def lw_privs_4 : List (MethodName × Nat) := [(⟨"WakeLetModel", "isClient", "(I)Z"⟩, 17), (⟨"WakeLetModel", "triesFrom", "(I)V"⟩, 17), (⟨"WakeLetModel", "tries", "(I)V"⟩, 17), (⟨"WakeLetModel", "firstOf", "(I)I"⟩, 17), (⟨"WakeLetModel", "isSet", "(I)Z"⟩, 17), (⟨"WakeLetModel", "allLets", "()I"⟩, 17), (⟨"WakeLetModel", "triesLets", "(II)I"⟩, 17), (⟨"WakeLetModel", "letBy", "(II)I"⟩, 17), (⟨"WakeLetModel", "weightsIn", "(I)I"⟩, 17), (⟨"WakeLetModel", "against", "(III)I"⟩, 17), (⟨"WakeLetModel", "isSo", "(II)Z"⟩, 17), (⟨"WakeLetModel", "size", "(I)I"⟩, 17), (⟨"WakeLetModel", "leaves", "(I)V"⟩, 17), (⟨"WakeLetModel", "sizeOwl", "(I)I"⟩, 17), (⟨"WakeLetModel", "mark", "(I)I"⟩, 17), (⟨"WakeLetModel", "markOwl", "(I)I"⟩, 17)]
theorem lw_r4 : ∀ q ∈ lw_privs_4, lw_okq q := List.forall_mem_cons.mpr ⟨lw_p48, List.forall_mem_cons.mpr ⟨lw_p49, List.forall_mem_cons.mpr ⟨lw_p50, List.forall_mem_cons.mpr ⟨lw_p51, List.forall_mem_cons.mpr ⟨lw_p52, List.forall_mem_cons.mpr ⟨lw_p53, List.forall_mem_cons.mpr ⟨lw_p54, List.forall_mem_cons.mpr ⟨lw_p55, List.forall_mem_cons.mpr ⟨lw_p56, List.forall_mem_cons.mpr ⟨lw_p57, List.forall_mem_cons.mpr ⟨lw_p58, List.forall_mem_cons.mpr ⟨lw_p59, List.forall_mem_cons.mpr ⟨lw_p60, List.forall_mem_cons.mpr ⟨lw_p61, List.forall_mem_cons.mpr ⟨lw_p62, List.forall_mem_cons.mpr ⟨lw_p63, fun _ h => absurd h List.not_mem_nil⟩⟩⟩⟩⟩⟩⟩⟩⟩⟩⟩⟩⟩⟩⟩⟩
theorem lw_p64 : lw_okq (⟨"WakeLetModel", "markLent", "(I)I"⟩, 17) := ⟨⟨by decide +kernel, by decide +kernel⟩, List.mem_of_getElem? (i := 687) (by decide +kernel), List.mem_of_getElem? (i := 1053) (by decide +kernel), List.mem_of_getElem? (i := 1054) (by decide +kernel)⟩
theorem lw_p65 : lw_okq (⟨"WakeLetModel", "sizeGuard", "(IZ)I"⟩, 17) := ⟨⟨by decide +kernel, by decide +kernel⟩, List.mem_of_getElem? (i := 687) (by decide +kernel), List.mem_of_getElem? (i := 1057) (by decide +kernel), List.mem_of_getElem? (i := 1058) (by decide +kernel)⟩
theorem lw_p66 : lw_okq (⟨"WakeLetModel", "earnedOfAll", "()I"⟩, 17) := ⟨⟨by decide +kernel, by decide +kernel⟩, List.mem_of_getElem? (i := 687) (by decide +kernel), List.mem_of_getElem? (i := 1069) (by decide +kernel), List.mem_of_getElem? (i := 1070) (by decide +kernel)⟩
def lw_privs_5 : List (MethodName × Nat) := [(⟨"WakeLetModel", "markLent", "(I)I"⟩, 17), (⟨"WakeLetModel", "sizeGuard", "(IZ)I"⟩, 17), (⟨"WakeLetModel", "earnedOfAll", "()I"⟩, 17)]
theorem lw_r5 : ∀ q ∈ lw_privs_5, lw_okq q := List.forall_mem_cons.mpr ⟨lw_p64, List.forall_mem_cons.mpr ⟨lw_p65, List.forall_mem_cons.mpr ⟨lw_p66, fun _ h => absurd h List.not_mem_nil⟩⟩⟩
def lw_privs : List (MethodName × Nat) := lw_privs_1 ++ (lw_privs_2 ++ (lw_privs_3 ++ (lw_privs_4 ++ (lw_privs_5))))
def lw_tbl : List Cond := k2_sels lw_privs ++ tables_1
theorem lw_privs_ok : ∀ q ∈ lw_privs, lw_okq q := by
  show ∀ q ∈ lw_privs_1 ++ (lw_privs_2 ++ (lw_privs_3 ++ (lw_privs_4 ++ (lw_privs_5)))), lw_okq q
  exact List.forall_mem_append.mpr ⟨lw_r1, List.forall_mem_append.mpr ⟨lw_r2, List.forall_mem_append.mpr ⟨lw_r3, List.forall_mem_append.mpr ⟨lw_r4, lw_r5⟩⟩⟩⟩
end
section
def RX0 : String := "WakeLet$Acts"
def TX0 : u_T := fun k => match k with
  | 0 => ("WakeLet$Acts", "log", "[I", true)
  | 1 => ("WakeLet$Acts", "first", "I", false)
  | _ => ("WakeLet$Acts", "kept", "I", false)
def tyX0 : Nat → FieldType := fun k => match k with
  | 0 => .array .int
  | 1 => .int
  | _ => .int
abbrev wsX00 : List Cond := u_ws RX0 TX0 3
theorem nmX0 : ∀ a, a < 3 → ∀ b, b < 3 → a ≠ b → (TX0 a).2.1 ≠ (TX0 b).2.1 := by decide +kernel
theorem tyX0_ok : ∀ k, k < 3 → parseFieldDescriptor (TX0 k).2.2.1 = some (tyX0 k) := by decide +kernel
abbrev cX0_init : ByteArray := prog_2_method_1_code
def yX0_init : MethodName := ⟨RX0, "<init>", "()V"⟩
abbrev cX0_forgetAll : ByteArray := prog_2_method_2_code
def yX0_forgetAll : MethodName := ⟨RX0, "forgetAll", "()V"⟩
abbrev cX0_keep : ByteArray := prog_2_method_3_code
def yX0_keep : MethodName := ⟨RX0, "keep", "(LWakeLet$Agency;)V"⟩
abbrev cX0_takeBack : ByteArray := prog_2_method_4_code
def yX0_takeBack : MethodName := ⟨RX0, "takeBack", "(LWakeLet$Agency;)Z"⟩
abbrev cX0_startOf : ByteArray := prog_2_method_5_code
def yX0_startOf : MethodName := ⟨RX0, "startOf", "(I)I"⟩
def RX1 : String := "WakeLet$Agency"
def TX1 : u_T := fun k => match k with
  | 0 => ("WakeLet$Agency", "weights", "[I", true)
  | 1 => ("WakeLet$Agency", "worries", "[I", true)
  | 2 => ("WakeLet$Agency", "kinds", "[I", true)
  | 3 => ("WakeLet$Agency", "hours", "[I", true)
  | 4 => ("WakeLet$Agency", "fitting", "[I", true)
  | 5 => ("WakeLet$Agency", "hirers", "[I", true)
  | 6 => ("WakeLet$Agency", "wages", "[I", true)
  | 7 => ("WakeLet$Agency", "clients", "I", false)
  | 8 => ("WakeLet$Agency", "wakers", "I", false)
  | 9 => ("WakeLet$Agency", "bears", "I", false)
  | 10 => ("WakeLet$Agency", "moon", "I", false)
  | _ => ("WakeLet$Agency", "night", "I", false)
def tyX1 : Nat → FieldType := fun k => match k with
  | 0 => .array .int
  | 1 => .array .int
  | 2 => .array .int
  | 3 => .array .int
  | 4 => .array .int
  | 5 => .array .int
  | 6 => .array .int
  | 7 => .int
  | 8 => .int
  | 9 => .int
  | 10 => .int
  | _ => .int
abbrev wsX10 : List Cond := u_ws RX1 TX1 12
theorem nmX1 : ∀ a, a < 12 → ∀ b, b < 12 → a ≠ b → (TX1 a).2.1 ≠ (TX1 b).2.1 := by decide +kernel
theorem tyX1_ok : ∀ k, k < 12 → parseFieldDescriptor (TX1 k).2.2.1 = some (tyX1 k) := by decide +kernel
abbrev cX1_init : ByteArray := prog_3_method_1_code
def yX1_init : MethodName := ⟨RX1, "<init>", "()V"⟩
abbrev cX1_close : ByteArray := prog_3_method_2_code
def yX1_close : MethodName := ⟨RX1, "close", "()V"⟩
abbrev cX1_copyFrom : ByteArray := prog_3_method_3_code
def yX1_copyFrom : MethodName := ⟨RX1, "copyFrom", "(LWakeLet$Agency;)V"⟩
abbrev cX1_isOpen : ByteArray := prog_3_method_4_code
def yX1_isOpen : MethodName := ⟨RX1, "isOpen", "()Z"⟩
abbrev cX1_hasClient : ByteArray := prog_3_method_5_code
def yX1_hasClient : MethodName := ⟨RX1, "hasClient", "(I)Z"⟩
abbrev cX1_hasWaker : ByteArray := prog_3_method_6_code
def yX1_hasWaker : MethodName := ⟨RX1, "hasWaker", "(I)Z"⟩
abbrev cX1_hasAll : ByteArray := prog_3_method_7_code
def yX1_hasAll : MethodName := ⟨RX1, "hasAll", "(I)Z"⟩
abbrev cX1_lying : ByteArray := prog_3_method_8_code
def yX1_lying : MethodName := ⟨RX1, "lying", "(III)I"⟩
abbrev cX1_guarding : ByteArray := prog_3_method_9_code
def yX1_guarding : MethodName := ⟨RX1, "guarding", "(II)I"⟩
abbrev cX1_takenBy : ByteArray := prog_3_method_10_code
def yX1_takenBy : MethodName := ⟨RX1, "takenBy", "(III)I"⟩
abbrev cX1_lighterBy : ByteArray := prog_3_method_11_code
def yX1_lighterBy : MethodName := ⟨RX1, "lighterBy", "(II)I"⟩
abbrev cX1_hiredBy : ByteArray := prog_3_method_12_code
def yX1_hiredBy : MethodName := ⟨RX1, "hiredBy", "(I)I"⟩
abbrev cX1_passNight : ByteArray := prog_3_method_13_code
def yX1_passNight : MethodName := ⟨RX1, "passNight", "(I)V"⟩
abbrev cX1_nextWeight : ByteArray := prog_3_method_14_code
def yX1_nextWeight : MethodName := ⟨RX1, "nextWeight", "(II)I"⟩
abbrev cX1_makeHeavier : ByteArray := prog_3_method_15_code
def yX1_makeHeavier : MethodName := ⟨RX1, "makeHeavier", "(II)V"⟩
abbrev cX1_resting : ByteArray := prog_3_method_16_code
def yX1_resting : MethodName := ⟨RX1, "resting", "()I"⟩
abbrev cX1_weightsTogether : ByteArray := prog_3_method_17_code
def yX1_weightsTogether : MethodName := ⟨RX1, "weightsTogether", "()I"⟩
abbrev cX1_wagesTogether : ByteArray := prog_3_method_18_code
def yX1_wagesTogether : MethodName := ⟨RX1, "wagesTogether", "()I"⟩
def RX2 : String := "WakeLet$Asks"
def TX2 : u_T := fun k => match k with
  | 0 => ("WakeLet$Asks", "numbers", "[I", true)
  | _ => ("WakeLet$Asks", "traced", "I", false)
def tyX2 : Nat → FieldType := fun k => match k with
  | 0 => .array .int
  | _ => .int
abbrev wsX20 : List Cond := u_ws RX2 TX2 2
theorem nmX2 : ∀ a, a < 2 → ∀ b, b < 2 → a ≠ b → (TX2 a).2.1 ≠ (TX2 b).2.1 := by decide +kernel
theorem tyX2_ok : ∀ k, k < 2 → parseFieldDescriptor (TX2 k).2.2.1 = some (tyX2 k) := by decide +kernel
abbrev cX2_init : ByteArray := prog_4_method_1_code
def yX2_init : MethodName := ⟨RX2, "<init>", "()V"⟩
abbrev cX2_begin : ByteArray := prog_4_method_2_code
def yX2_begin : MethodName := ⟨RX2, "begin", "(LWakeLet$Agency;II)I"⟩
abbrev cX2_isOfKind : ByteArray := prog_4_method_3_code
def yX2_isOfKind : MethodName := ⟨RX2, "isOfKind", "(II)Z"⟩
abbrev cX2_parentOf : ByteArray := prog_4_method_4_code
def yX2_parentOf : MethodName := ⟨RX2, "parentOf", "(I)I"⟩
abbrev cX2_askAnew : ByteArray := prog_4_method_5_code
def yX2_askAnew : MethodName := ⟨RX2, "askAnew", "(LWakeLet$Agency;III)I"⟩
abbrev cX2_bodyFor : ByteArray := prog_4_method_6_code
def yX2_bodyFor : MethodName := ⟨RX2, "bodyFor", "(II)I"⟩
abbrev cX2_ownBody : ByteArray := prog_4_method_7_code
def yX2_ownBody : MethodName := ⟨RX2, "ownBody", "(II)I"⟩
abbrev cX2_runBody : ByteArray := prog_4_method_8_code
def yX2_runBody : MethodName := ⟨RX2, "runBody", "(LWakeLet$Agency;III)I"⟩
abbrev cX2_leave : ByteArray := prog_4_method_9_code
def yX2_leave : MethodName := ⟨RX2, "leave", "(I)V"⟩
def RX3 : String := "WakeLet$Row"
def TX3 : u_T := fun k => match k with
  | 0 => ("WakeLet$Row", "items", "[I", true)
  | 1 => ("WakeLet$Row", "lane", "I", false)
  | _ => ("WakeLet$Row", "size", "I", false)
def tyX3 : Nat → FieldType := fun k => match k with
  | 0 => .array .int
  | 1 => .int
  | _ => .int
abbrev wsX30 : List Cond := u_ws RX3 TX3 3
theorem nmX3 : ∀ a, a < 3 → ∀ b, b < 3 → a ≠ b → (TX3 a).2.1 ≠ (TX3 b).2.1 := by decide +kernel
theorem tyX3_ok : ∀ k, k < 3 → parseFieldDescriptor (TX3 k).2.2.1 = some (tyX3 k) := by decide +kernel
abbrev cX3_init : ByteArray := prog_5_method_1_code
def yX3_init : MethodName := ⟨RX3, "<init>", "()V"⟩
abbrev cX3_isMissing : ByteArray := prog_5_method_2_code
def yX3_isMissing : MethodName := ⟨RX3, "isMissing", "()Z"⟩
abbrev cX3_holds : ByteArray := prog_5_method_3_code
def yX3_holds : MethodName := ⟨RX3, "holds", "(II)Z"⟩
abbrev cX3_make : ByteArray := prog_5_method_4_code
def yX3_make : MethodName := ⟨RX3, "make", "(II)V"⟩
abbrev cX3_put : ByteArray := prog_5_method_5_code
def yX3_put : MethodName := ⟨RX3, "put", "(II)I"⟩
abbrev cX3_lose : ByteArray := prog_5_method_6_code
def yX3_lose : MethodName := ⟨RX3, "lose", "()I"⟩
def RX4 : String := "WakeLet$Search"
def TX4 : u_T := fun k => match k with
  | 0 => ("WakeLet$Search", "behind", "[I", true)
  | 1 => ("WakeLet$Search", "taken", "[I", true)
  | 2 => ("WakeLet$Search", "hiredBy", "[I", true)
  | 3 => ("WakeLet$Search", "tried", "[I", true)
  | 4 => ("WakeLet$Search", "chosen", "[I", true)
  | 5 => ("WakeLet$Search", "resting", "I", false)
  | 6 => ("WakeLet$Search", "together", "I", false)
  | _ => ("WakeLet$Search", "hired", "I", false)
def tyX4 : Nat → FieldType := fun k => match k with
  | 0 => .array .int
  | 1 => .array .int
  | 2 => .array .int
  | 3 => .array .int
  | 4 => .array .int
  | 5 => .int
  | 6 => .int
  | _ => .int
abbrev wsX40 : List Cond := u_ws RX4 TX4 8
theorem nmX4 : ∀ a, a < 8 → ∀ b, b < 8 → a ≠ b → (TX4 a).2.1 ≠ (TX4 b).2.1 := by decide +kernel
theorem tyX4_ok : ∀ k, k < 8 → parseFieldDescriptor (TX4 k).2.2.1 = some (tyX4 k) := by decide +kernel
abbrev cX4_init : ByteArray := prog_6_method_1_code
def yX4_init : MethodName := ⟨RX4, "<init>", "()V"⟩
abbrev cX4_findBest : ByteArray := prog_6_method_2_code
def yX4_findBest : MethodName := ⟨RX4, "findBest", "(LWakeLet$Agency;I)V"⟩
abbrev cX4_findFewest : ByteArray := prog_6_method_3_code
def yX4_findFewest : MethodName := ⟨RX4, "findFewest", "(LWakeLet$Agency;II)V"⟩
abbrev cX4_restAll : ByteArray := prog_6_method_4_code
def yX4_restAll : MethodName := ⟨RX4, "restAll", "(LWakeLet$Agency;I)Z"⟩
abbrev cX4_weightBehind : ByteArray := prog_6_method_5_code
def yX4_weightBehind : MethodName := ⟨RX4, "weightBehind", "(I)I"⟩
abbrev cX4_choose : ByteArray := prog_6_method_6_code
def yX4_choose : MethodName := ⟨RX4, "choose", "()V"⟩
abbrev cX4_foretellSets : ByteArray := prog_6_method_7_code
def yX4_foretellSets : MethodName := ⟨RX4, "foretellSets", "(LWakeLet$Agency;I)V"⟩
abbrev cX4_findTaken : ByteArray := prog_6_method_8_code
def yX4_findTaken : MethodName := ⟨RX4, "findTaken", "(LWakeLet$Agency;II)V"⟩
abbrev cX4_waysToLet : ByteArray := prog_6_method_9_code
def yX4_waysToLet : MethodName := ⟨RX4, "waysToLet", "(LWakeLet$Agency;)I"⟩
abbrev cX4_tryWay : ByteArray := prog_6_method_10_code
def yX4_tryWay : MethodName := ⟨RX4, "tryWay", "(LWakeLet$Agency;I)I"⟩
def RX5 : String := "WakeLet$Tape"
def TX5 : u_T := fun k => match k with
  | 0 => ("WakeLet$Tape", "bytes", "[I", true)
  | 1 => ("WakeLet$Tape", "length", "I", false)
  | 2 => ("WakeLet$Tape", "place", "I", false)
  | 3 => ("WakeLet$Tape", "fault", "I", false)
  | _ => ("WakeLet$Tape", "faultPlace", "I", false)
def tyX5 : Nat → FieldType := fun k => match k with
  | 0 => .array .int
  | 1 => .int
  | 2 => .int
  | 3 => .int
  | _ => .int
abbrev wsX50 : List Cond := u_ws RX5 TX5 5
theorem nmX5 : ∀ a, a < 5 → ∀ b, b < 5 → a ≠ b → (TX5 a).2.1 ≠ (TX5 b).2.1 := by decide +kernel
theorem tyX5_ok : ∀ k, k < 5 → parseFieldDescriptor (TX5 k).2.2.1 = some (tyX5 k) := by decide +kernel
abbrev cX5_init : ByteArray := prog_7_method_1_code
def yX5_init : MethodName := ⟨RX5, "<init>", "()V"⟩
abbrev cX5_append : ByteArray := prog_7_method_2_code
def yX5_append : MethodName := ⟨RX5, "append", "(I)Z"⟩
abbrev cX5_readInto : ByteArray := prog_7_method_3_code
def yX5_readInto : MethodName := ⟨RX5, "readInto", "(LWakeLet$Agency;)V"⟩
abbrev cX5_readLaw : ByteArray := prog_7_method_4_code
def yX5_readLaw : MethodName := ⟨RX5, "readLaw", "(LWakeLet$Agency;)V"⟩
abbrev cX5_readClients : ByteArray := prog_7_method_5_code
def yX5_readClients : MethodName := ⟨RX5, "readClients", "(LWakeLet$Agency;)V"⟩
abbrev cX5_readClient : ByteArray := prog_7_method_6_code
def yX5_readClient : MethodName := ⟨RX5, "readClient", "(LWakeLet$Agency;)V"⟩
abbrev cX5_readWakers : ByteArray := prog_7_method_7_code
def yX5_readWakers : MethodName := ⟨RX5, "readWakers", "(LWakeLet$Agency;)V"⟩
abbrev cX5_readWaker : ByteArray := prog_7_method_8_code
def yX5_readWaker : MethodName := ⟨RX5, "readWaker", "(LWakeLet$Agency;)V"⟩
abbrev cX5_kindTold : ByteArray := prog_7_method_9_code
def yX5_kindTold : MethodName := ⟨RX5, "kindTold", "(I)I"⟩
abbrev cX5_hirer : ByteArray := prog_7_method_10_code
def yX5_hirer : MethodName := ⟨RX5, "hirer", "(LWakeLet$Agency;)I"⟩
abbrev cX5_number : ByteArray := prog_7_method_11_code
def yX5_number : MethodName := ⟨RX5, "number", "(I)I"⟩
abbrev cX5_expect : ByteArray := prog_7_method_12_code
def yX5_expect : MethodName := ⟨RX5, "expect", "(I)V"⟩
abbrev cX5_isFigure : ByteArray := prog_7_method_13_code
def yX5_isFigure : MethodName := ⟨RX5, "isFigure", "(I)Z"⟩
abbrev cX5_next : ByteArray := prog_7_method_14_code
def yX5_next : MethodName := ⟨RX5, "next", "()I"⟩
abbrev cX5_fail : ByteArray := prog_7_method_15_code
def yX5_fail : MethodName := ⟨RX5, "fail", "(II)V"⟩
def RX6 : String := "WakeLet"
def TX6 : u_T := fun k => match k with
  | 0 => ("WakeLet", "rows", "[LWakeLet$Row;", true)
  | 1 => ("WakeLet", "images", "[LWakeLet$Agency;", true)
  | 2 => ("WakeLet", "now", "LWakeLet$Agency;", true)
  | 3 => ("WakeLet", "trial", "LWakeLet$Agency;", true)
  | 4 => ("WakeLet", "tape", "LWakeLet$Tape;", true)
  | 5 => ("WakeLet", "acts", "LWakeLet$Acts;", true)
  | 6 => ("WakeLet", "search", "LWakeLet$Search;", true)
  | 7 => ("WakeLet", "asks", "LWakeLet$Asks;", true)
  | 8 => ("WakeLet", "latestFault", "I", false)
  | _ => ("WakeLet", "finding", "I", false)
def tyX6 : Nat → FieldType := fun k => match k with
  | 0 => .array (.object "WakeLet$Row")
  | 1 => .array (.object "WakeLet$Agency")
  | 2 => .object "WakeLet$Agency"
  | 3 => .object "WakeLet$Agency"
  | 4 => .object "WakeLet$Tape"
  | 5 => .object "WakeLet$Acts"
  | 6 => .object "WakeLet$Search"
  | 7 => .object "WakeLet$Asks"
  | 8 => .int
  | _ => .int
abbrev wsX60 : List Cond := u_ws RX6 TX6 10
theorem nmX6 : ∀ a, a < 10 → ∀ b, b < 10 → a ≠ b → (TX6 a).2.1 ≠ (TX6 b).2.1 := by decide +kernel
theorem tyX6_ok : ∀ k, k < 10 → parseFieldDescriptor (TX6 k).2.2.1 = some (tyX6 k) := by decide +kernel
abbrev cX6_init : ByteArray := prog_1_method_1_code
def yX6_init : MethodName := ⟨RX6, "<init>", "()V"⟩
abbrev cX6_row : ByteArray := prog_1_method_2_code
def yX6_row : MethodName := ⟨RX6, "row", "(III)I"⟩
abbrev cX6_set : ByteArray := prog_1_method_3_code
def yX6_set : MethodName := ⟨RX6, "set", "(III)I"⟩
abbrev cX6_copy : ByteArray := prog_1_method_4_code
def yX6_copy : MethodName := ⟨RX6, "copy", "(IIIII)I"⟩
abbrev cX6_drop : ByteArray := prog_1_method_5_code
def yX6_drop : MethodName := ⟨RX6, "drop", "(I)I"⟩
abbrev cX6_feed : ByteArray := prog_1_method_6_code
def yX6_feed : MethodName := ⟨RX6, "feed", "(I)I"⟩
abbrev cX6_agency : ByteArray := prog_1_method_7_code
def yX6_agency : MethodName := ⟨RX6, "agency", "()I"⟩
abbrev cX6_fault : ByteArray := prog_1_method_8_code
def yX6_fault : MethodName := ⟨RX6, "fault", "()I"⟩
abbrev cX6_nights : ByteArray := prog_1_method_9_code
def yX6_nights : MethodName := ⟨RX6, "nights", "(I)I"⟩
abbrev cX6_let : ByteArray := prog_1_method_10_code
def yX6_let : MethodName := ⟨RX6, "let", "(II)I"⟩
abbrev cX6_grow : ByteArray := prog_1_method_11_code
def yX6_grow : MethodName := ⟨RX6, "grow", "(II)I"⟩
abbrev cX6_learn : ByteArray := prog_1_method_12_code
def yX6_learn : MethodName := ⟨RX6, "learn", "(II)I"⟩
abbrev cX6_undo : ByteArray := prog_1_method_13_code
def yX6_undo : MethodName := ⟨RX6, "undo", "()I"⟩
abbrev cX6_client : ByteArray := prog_1_method_14_code
def yX6_client : MethodName := ⟨RX6, "client", "(II)I"⟩
abbrev cX6_waker : ByteArray := prog_1_method_15_code
def yX6_waker : MethodName := ⟨RX6, "waker", "(II)I"⟩
abbrev cX6_weight : ByteArray := prog_1_method_16_code
def yX6_weight : MethodName := ⟨RX6, "weight", "(II)I"⟩
abbrev cX6_earned : ByteArray := prog_1_method_17_code
def yX6_earned : MethodName := ⟨RX6, "earned", "(II)I"⟩
abbrev cX6_rests : ByteArray := prog_1_method_18_code
def yX6_rests : MethodName := ⟨RX6, "rests", "(I)I"⟩
abbrev cX6_when : ByteArray := prog_1_method_19_code
def yX6_when : MethodName := ⟨RX6, "when", "(I)I"⟩
abbrev cX6_all : ByteArray := prog_1_method_20_code
def yX6_all : MethodName := ⟨RX6, "all", "(I)I"⟩
abbrev cX6_never : ByteArray := prog_1_method_21_code
def yX6_never : MethodName := ⟨RX6, "never", "()I"⟩
abbrev cX6_best : ByteArray := prog_1_method_22_code
def yX6_best : MethodName := ⟨RX6, "best", "(II)I"⟩
abbrev cX6_fewest : ByteArray := prog_1_method_23_code
def yX6_fewest : MethodName := ⟨RX6, "fewest", "(III)I"⟩
abbrev cX6_fits : ByteArray := prog_1_method_24_code
def yX6_fits : MethodName := ⟨RX6, "fits", "(IIIII)I"⟩
abbrev cX6_nods : ByteArray := prog_1_method_25_code
def yX6_nods : MethodName := ⟨RX6, "nods", "(III)I"⟩
abbrev cX6_drawn : ByteArray := prog_1_method_26_code
def yX6_drawn : MethodName := ⟨RX6, "drawn", "(III)I"⟩
abbrev cX6_image : ByteArray := prog_1_method_27_code
def yX6_image : MethodName := ⟨RX6, "image", "(I)I"⟩
abbrev cX6_restore : ByteArray := prog_1_method_28_code
def yX6_restore : MethodName := ⟨RX6, "restore", "(I)I"⟩
abbrev cX6_kind : ByteArray := prog_1_method_29_code
def yX6_kind : MethodName := ⟨RX6, "kind", "(I)I"⟩
abbrev cX6_as : ByteArray := prog_1_method_30_code
def yX6_as : MethodName := ⟨RX6, "as", "(II)I"⟩
abbrev cX6_ask : ByteArray := prog_1_method_31_code
def yX6_ask : MethodName := ⟨RX6, "ask", "(II)I"⟩
abbrev cX6_trace : ByteArray := prog_1_method_32_code
def yX6_trace : MethodName := ⟨RX6, "trace", "(I)I"⟩
abbrev cX6_count : ByteArray := prog_1_method_33_code
def yX6_count : MethodName := ⟨RX6, "count", "(I)I"⟩
abbrev cX6_status : ByteArray := prog_1_method_34_code
def yX6_status : MethodName := ⟨RX6, "status", "()I"⟩
abbrev cX6_isWithin : ByteArray := prog_1_method_35_code
def yX6_isWithin : MethodName := ⟨RX6, "isWithin", "(III)Z"⟩
abbrev cX6_found : ByteArray := prog_1_method_36_code
def yX6_found : MethodName := ⟨RX6, "found", "(I)I"⟩
abbrev cX6_unfound : ByteArray := prog_1_method_37_code
def yX6_unfound : MethodName := ⟨RX6, "unfound", "(I)I"⟩
abbrev cX6_rowsThere : ByteArray := prog_1_method_38_code
def yX6_rowsThere : MethodName := ⟨RX6, "rowsThere", "()I"⟩
abbrev cX6_foretell : ByteArray := prog_1_method_39_code
def yX6_foretell : MethodName := ⟨RX6, "foretell", "(I)V"⟩
abbrev cX6_firstRest : ByteArray := prog_1_method_40_code
def yX6_firstRest : MethodName := ⟨RX6, "firstRest", "(I)I"⟩
abbrev cX6_hirerFound : ByteArray := prog_1_method_41_code
def yX6_hirerFound : MethodName := ⟨RX6, "hirerFound", "(I)I"⟩
abbrev cX6_isGuess : ByteArray := prog_1_method_42_code
def yX6_isGuess : MethodName := ⟨RX6, "isGuess", "(II)Z"⟩
abbrev cX6_wouldShow : ByteArray := prog_1_method_43_code
def yX6_wouldShow : MethodName := ⟨RX6, "wouldShow", "(IIILWakeLet$Row;II)Z"⟩
abbrev cX6_waysToBe : ByteArray := prog_1_method_44_code
def yX6_waysToBe : MethodName := ⟨RX6, "waysToBe", "(II)I"⟩
abbrev cX6_commonDivisor : ByteArray := prog_1_method_45_code
def yX6_commonDivisor : MethodName := ⟨RX6, "commonDivisor", "(II)I"⟩
def RX7 : String := "WakeLetModel"
def TX7 : u_T := fun k => match k with
  | 0 => ("WakeLetModel", "w", "[I", true)
  | 1 => ("WakeLetModel", "isKept", "[Z", true)
  | 2 => ("WakeLetModel", "acts", "[I", true)
  | 3 => ("WakeLetModel", "acted", "I", false)
  | 4 => ("WakeLetModel", "rows", "[I", true)
  | 5 => ("WakeLetModel", "rowSize", "[I", true)
  | 6 => ("WakeLetModel", "rowLane", "[I", true)
  | 7 => ("WakeLetModel", "status", "I", false)
  | 8 => ("WakeLetModel", "tape", "[I", true)
  | 9 => ("WakeLetModel", "taped", "I", false)
  | 10 => ("WakeLetModel", "faulty", "I", false)
  | 11 => ("WakeLetModel", "trace", "[I", true)
  | 12 => ("WakeLetModel", "traced", "I", false)
  | 13 => ("WakeLetModel", "held", "[I", true)
  | 14 => ("WakeLetModel", "at", "I", false)
  | 15 => ("WakeLetModel", "number", "I", false)
  | _ => ("WakeLetModel", "faultAt", "I", false)
def tyX7 : Nat → FieldType := fun k => match k with
  | 0 => .array .int
  | 1 => .array .boolean
  | 2 => .array .int
  | 3 => .int
  | 4 => .array .int
  | 5 => .array .int
  | 6 => .array .int
  | 7 => .int
  | 8 => .array .int
  | 9 => .int
  | 10 => .int
  | 11 => .array .int
  | 12 => .int
  | 13 => .array .int
  | 14 => .int
  | 15 => .int
  | _ => .int
abbrev wsX70 : List Cond := u_ws RX7 TX7 17
theorem nmX7 : ∀ a, a < 17 → ∀ b, b < 17 → a ≠ b → (TX7 a).2.1 ≠ (TX7 b).2.1 := by decide +kernel
theorem tyX7_ok : ∀ k, k < 17 → parseFieldDescriptor (TX7 k).2.2.1 = some (tyX7 k) := by decide +kernel
abbrev cX7_init : ByteArray := prog_9_method_1_code
def yX7_init : MethodName := ⟨RX7, "<init>", "()V"⟩
abbrev cX7_in : ByteArray := prog_9_method_3_code
def yX7_in : MethodName := ⟨RX7, "in", "(JJJ)Z"⟩
abbrev cX7_has : ByteArray := prog_9_method_4_code
def yX7_has : MethodName := ⟨RX7, "has", "(II)Z"⟩
abbrev cX7_ones : ByteArray := prog_9_method_5_code
def yX7_ones : MethodName := ⟨RX7, "ones", "(I)I"⟩
abbrev cX7_found : ByteArray := prog_9_method_6_code
def yX7_found : MethodName := ⟨RX7, "found", "(I)I"⟩
abbrev cX7_good : ByteArray := prog_9_method_7_code
def yX7_good : MethodName := ⟨RX7, "good", "(I)I"⟩
abbrev cX7_isRow : ByteArray := prog_9_method_8_code
def yX7_isRow : MethodName := ⟨RX7, "isRow", "(I)Z"⟩
abbrev cX7_row : ByteArray := prog_9_method_9_code
def yX7_row : MethodName := ⟨RX7, "row", "(III)I"⟩
abbrev cX7_set : ByteArray := prog_9_method_10_code
def yX7_set : MethodName := ⟨RX7, "set", "(III)I"⟩
abbrev cX7_isWithin : ByteArray := prog_9_method_11_code
def yX7_isWithin : MethodName := ⟨RX7, "isWithin", "(III)Z"⟩
abbrev cX7_copy : ByteArray := prog_9_method_12_code
def yX7_copy : MethodName := ⟨RX7, "copy", "(IIIII)I"⟩
abbrev cX7_drop : ByteArray := prog_9_method_13_code
def yX7_drop : MethodName := ⟨RX7, "drop", "(I)I"⟩
abbrev cX7_against : ByteArray := prog_9_method_14_code
def yX7_against : MethodName := ⟨RX7, "against", "(III)I"⟩
abbrev cX7_feed : ByteArray := prog_9_method_15_code
def yX7_feed : MethodName := ⟨RX7, "feed", "(I)I"⟩
abbrev cX7_byteAt : ByteArray := prog_9_method_16_code
def yX7_byteAt : MethodName := ⟨RX7, "byteAt", "(I)I"⟩
abbrev cX7_fails : ByteArray := prog_9_method_17_code
def yX7_fails : MethodName := ⟨RX7, "fails", "(II)Z"⟩
abbrev cX7_takes : ByteArray := prog_9_method_18_code
def yX7_takes : MethodName := ⟨RX7, "takes", "(I)Z"⟩
abbrev cX7_takesNumber : ByteArray := prog_9_method_19_code
def yX7_takesNumber : MethodName := ⟨RX7, "takesNumber", "(III)Z"⟩
abbrev cX7_takesLaw : ByteArray := prog_9_method_20_code
def yX7_takesLaw : MethodName := ⟨RX7, "takesLaw", "()Z"⟩
abbrev cX7_takesClient : ByteArray := prog_9_method_21_code
def yX7_takesClient : MethodName := ⟨RX7, "takesClient", "()Z"⟩
abbrev cX7_kindOf : ByteArray := prog_9_method_22_code
def yX7_kindOf : MethodName := ⟨RX7, "kindOf", "(I)I"⟩
abbrev cX7_takesWaker : ByteArray := prog_9_method_23_code
def yX7_takesWaker : MethodName := ⟨RX7, "takesWaker", "(I)Z"⟩
abbrev cX7_takesMore : ByteArray := prog_9_method_24_code
def yX7_takesMore : MethodName := ⟨RX7, "takesMore", "()Z"⟩
abbrev cX7_copyAll : ByteArray := prog_9_method_25_code
def yX7_copyAll : MethodName := ⟨RX7, "copyAll", "(II)V"⟩
abbrev cX7_agency : ByteArray := prog_9_method_26_code
def yX7_agency : MethodName := ⟨RX7, "agency", "()I"⟩
abbrev cX7_fault : ByteArray := prog_9_method_27_code
def yX7_fault : MethodName := ⟨RX7, "fault", "()I"⟩
abbrev cX7_isAgency : ByteArray := prog_9_method_28_code
def yX7_isAgency : MethodName := ⟨RX7, "isAgency", "()Z"⟩
abbrev cX7_isClient : ByteArray := prog_9_method_29_code
def yX7_isClient : MethodName := ⟨RX7, "isClient", "(I)Z"⟩
abbrev cX7_isWaker : ByteArray := prog_9_method_30_code
def yX7_isWaker : MethodName := ⟨RX7, "isWaker", "(I)Z"⟩
abbrev cX7_isFit : ByteArray := prog_9_method_31_code
def yX7_isFit : MethodName := ⟨RX7, "isFit", "(II)Z"⟩
abbrev cX7_guards : ByteArray := prog_9_method_32_code
def yX7_guards : MethodName := ⟨RX7, "guards", "(II)I"⟩
abbrev cX7_lies : ByteArray := prog_9_method_33_code
def yX7_lies : MethodName := ⟨RX7, "lies", "(II)I"⟩
abbrev cX7_lighter : ByteArray := prog_9_method_34_code
def yX7_lighter : MethodName := ⟨RX7, "lighter", "(III)I"⟩
abbrev cX7_passes : ByteArray := prog_9_method_35_code
def yX7_passes : MethodName := ⟨RX7, "passes", "(II)V"⟩
abbrev cX7_restsIn : ByteArray := prog_9_method_36_code
def yX7_restsIn : MethodName := ⟨RX7, "restsIn", "(I)I"⟩
abbrev cX7_minds : ByteArray := prog_9_method_37_code
def yX7_minds : MethodName := ⟨RX7, "minds", "()V"⟩
abbrev cX7_nights : ByteArray := prog_9_method_38_code
def yX7_nights : MethodName := ⟨RX7, "nights", "(I)I"⟩
abbrev cX7_let : ByteArray := prog_9_method_39_code
def yX7_let : MethodName := ⟨RX7, "let", "(II)I"⟩
abbrev cX7_grow : ByteArray := prog_9_method_40_code
def yX7_grow : MethodName := ⟨RX7, "grow", "(II)I"⟩
abbrev cX7_learn : ByteArray := prog_9_method_41_code
def yX7_learn : MethodName := ⟨RX7, "learn", "(II)I"⟩
abbrev cX7_undo : ByteArray := prog_9_method_42_code
def yX7_undo : MethodName := ⟨RX7, "undo", "()I"⟩
abbrev cX7_client : ByteArray := prog_9_method_43_code
def yX7_client : MethodName := ⟨RX7, "client", "(II)I"⟩
abbrev cX7_waker : ByteArray := prog_9_method_44_code
def yX7_waker : MethodName := ⟨RX7, "waker", "(II)I"⟩
abbrev cX7_isSpan : ByteArray := prog_9_method_45_code
def yX7_isSpan : MethodName := ⟨RX7, "isSpan", "(I)Z"⟩
abbrev cX7_tries : ByteArray := prog_9_method_46_code
def yX7_tries : MethodName := ⟨RX7, "tries", "(I)V"⟩
abbrev cX7_triesFrom : ByteArray := prog_9_method_47_code
def yX7_triesFrom : MethodName := ⟨RX7, "triesFrom", "(I)V"⟩
abbrev cX7_weight : ByteArray := prog_9_method_48_code
def yX7_weight : MethodName := ⟨RX7, "weight", "(II)I"⟩
abbrev cX7_earned : ByteArray := prog_9_method_49_code
def yX7_earned : MethodName := ⟨RX7, "earned", "(II)I"⟩
abbrev cX7_rests : ByteArray := prog_9_method_50_code
def yX7_rests : MethodName := ⟨RX7, "rests", "(I)I"⟩
abbrev cX7_firstOf : ByteArray := prog_9_method_51_code
def yX7_firstOf : MethodName := ⟨RX7, "firstOf", "(I)I"⟩
abbrev cX7_when : ByteArray := prog_9_method_52_code
def yX7_when : MethodName := ⟨RX7, "when", "(I)I"⟩
abbrev cX7_isSet : ByteArray := prog_9_method_53_code
def yX7_isSet : MethodName := ⟨RX7, "isSet", "(I)Z"⟩
abbrev cX7_all : ByteArray := prog_9_method_54_code
def yX7_all : MethodName := ⟨RX7, "all", "(I)I"⟩
abbrev cX7_never : ByteArray := prog_9_method_55_code
def yX7_never : MethodName := ⟨RX7, "never", "()I"⟩
abbrev cX7_allLets : ByteArray := prog_9_method_56_code
def yX7_allLets : MethodName := ⟨RX7, "allLets", "()I"⟩
abbrev cX7_letBy : ByteArray := prog_9_method_57_code
def yX7_letBy : MethodName := ⟨RX7, "letBy", "(II)I"⟩
abbrev cX7_triesLets : ByteArray := prog_9_method_58_code
def yX7_triesLets : MethodName := ⟨RX7, "triesLets", "(II)I"⟩
abbrev cX7_weightsIn : ByteArray := prog_9_method_59_code
def yX7_weightsIn : MethodName := ⟨RX7, "weightsIn", "(I)I"⟩
abbrev cX7_best : ByteArray := prog_9_method_60_code
def yX7_best : MethodName := ⟨RX7, "best", "(II)I"⟩
abbrev cX7_fewest : ByteArray := prog_9_method_61_code
def yX7_fewest : MethodName := ⟨RX7, "fewest", "(III)I"⟩
abbrev cX7_isSo : ByteArray := prog_9_method_62_code
def yX7_isSo : MethodName := ⟨RX7, "isSo", "(II)Z"⟩
abbrev cX7_fits : ByteArray := prog_9_method_63_code
def yX7_fits : MethodName := ⟨RX7, "fits", "(IIIII)I"⟩
abbrev cX7_nods : ByteArray := prog_9_method_64_code
def yX7_nods : MethodName := ⟨RX7, "nods", "(III)I"⟩
abbrev cX7_drawn : ByteArray := prog_9_method_65_code
def yX7_drawn : MethodName := ⟨RX7, "drawn", "(III)I"⟩
abbrev cX7_image : ByteArray := prog_9_method_66_code
def yX7_image : MethodName := ⟨RX7, "image", "(I)I"⟩
abbrev cX7_restore : ByteArray := prog_9_method_67_code
def yX7_restore : MethodName := ⟨RX7, "restore", "(I)I"⟩
abbrev cX7_kind : ByteArray := prog_9_method_68_code
def yX7_kind : MethodName := ⟨RX7, "kind", "(I)I"⟩
abbrev cX7_as : ByteArray := prog_9_method_69_code
def yX7_as : MethodName := ⟨RX7, "as", "(II)I"⟩
abbrev cX7_leaves : ByteArray := prog_9_method_70_code
def yX7_leaves : MethodName := ⟨RX7, "leaves", "(I)V"⟩
abbrev cX7_markLent : ByteArray := prog_9_method_71_code
def yX7_markLent : MethodName := ⟨RX7, "markLent", "(I)I"⟩
abbrev cX7_markOwl : ByteArray := prog_9_method_72_code
def yX7_markOwl : MethodName := ⟨RX7, "markOwl", "(I)I"⟩
abbrev cX7_sizeGuard : ByteArray := prog_9_method_73_code
def yX7_sizeGuard : MethodName := ⟨RX7, "sizeGuard", "(IZ)I"⟩
abbrev cX7_mark : ByteArray := prog_9_method_74_code
def yX7_mark : MethodName := ⟨RX7, "mark", "(I)I"⟩
abbrev cX7_sizeOwl : ByteArray := prog_9_method_75_code
def yX7_sizeOwl : MethodName := ⟨RX7, "sizeOwl", "(I)I"⟩
abbrev cX7_size : ByteArray := prog_9_method_76_code
def yX7_size : MethodName := ⟨RX7, "size", "(I)I"⟩
abbrev cX7_ask : ByteArray := prog_9_method_77_code
def yX7_ask : MethodName := ⟨RX7, "ask", "(II)I"⟩
abbrev cX7_trace : ByteArray := prog_9_method_78_code
def yX7_trace : MethodName := ⟨RX7, "trace", "(I)I"⟩
abbrev cX7_earnedOfAll : ByteArray := prog_9_method_79_code
def yX7_earnedOfAll : MethodName := ⟨RX7, "earnedOfAll", "()I"⟩
abbrev cX7_count : ByteArray := prog_9_method_80_code
def yX7_count : MethodName := ⟨RX7, "count", "(I)I"⟩
abbrev cX7_status : ByteArray := prog_9_method_81_code
def yX7_status : MethodName := ⟨RX7, "status", "()I"⟩
def RJ6 : String := "java/lang/Integer"
def TJ6 : u_T := fun k => match k with
  | _ => ("", "", "", false)
def tyJ6 : Nat → FieldType := fun k => match k with
  | _ => .int
abbrev wsJ60 : List Cond := u_ws RJ6 TJ6 0
theorem nmJ6 : ∀ a, a < 0 → ∀ b, b < 0 → a ≠ b → (TJ6 a).2.1 ≠ (TJ6 b).2.1 := by decide +kernel
theorem tyJ6_ok : ∀ k, k < 0 → parseFieldDescriptor (TJ6 k).2.2.1 = some (tyJ6 k) := by decide +kernel
abbrev cJ6_numberOfTrailingZeros_0f7a4 : ByteArray := prog_10_method_48_code
def yJ6_numberOfTrailingZeros_0f7a4 : MethodName := ⟨RJ6, "numberOfTrailingZeros", "(I)I"⟩
abbrev cJ6_bitCount_0f7a4 : ByteArray := prog_10_method_49_code
def yJ6_bitCount_0f7a4 : MethodName := ⟨RJ6, "bitCount", "(I)I"⟩
def RJ9 : String := "java/lang/Math"
def TJ9 : u_T := fun k => match k with
  | _ => ("", "", "", false)
def tyJ9 : Nat → FieldType := fun k => match k with
  | _ => .int
abbrev wsJ90 : List Cond := u_ws RJ9 TJ9 0
theorem nmJ9 : ∀ a, a < 0 → ∀ b, b < 0 → a ≠ b → (TJ9 a).2.1 ≠ (TJ9 b).2.1 := by decide +kernel
theorem tyJ9_ok : ∀ k, k < 0 → parseFieldDescriptor (TJ9 k).2.2.1 = some (tyJ9 k) := by decide +kernel
abbrev cJ9_max_7cf53 : ByteArray := prog_11_method_65_code
def yJ9_max_7cf53 : MethodName := ⟨RJ9, "max", "(II)I"⟩
abbrev cJ9_min_7cf53 : ByteArray := prog_11_method_69_code
def yJ9_min_7cf53 : MethodName := ⟨RJ9, "min", "(II)I"⟩
def RJ10 : String := "java/lang/System"
def TJ10 : u_T := fun k => match k with
  | _ => ("", "", "", false)
def tyJ10 : Nat → FieldType := fun k => match k with
  | _ => .int
abbrev wsJ100 : List Cond := u_ws RJ10 TJ10 0
theorem nmJ10 : ∀ a, a < 0 → ∀ b, b < 0 → a ≠ b → (TJ10 a).2.1 ≠ (TJ10 b).2.1 := by decide +kernel
theorem tyJ10_ok : ∀ k, k < 0 → parseFieldDescriptor (TJ10 k).2.2.1 = some (tyJ10 k) := by decide +kernel
def RL : String := "WakeLetLaw"
abbrev cL_law : ByteArray := code
def yL_law : MethodName := ⟨RL, "law", "([I)Z"⟩
abbrev vwCl : List vw_C := [(RX0, TX0, 3), (RX1, TX1, 12), (RX2, TX2, 2), (RX3, TX3, 3), (RX4, TX4, 8), (RX5, TX5, 5), (RX6, TX6, 10), (RX7, TX7, 17)]
end
section
theorem dX0_init_0 : decode cX0_init 0 = .ok (.aload_n 0, 1) := by decide +kernel
theorem dX0_init_1 : decode cX0_init 1 = .ok (.invokespecial 3, 3) := by decide +kernel
theorem dX0_init_4 : decode cX0_init 4 = .ok (.aload_n 0, 1) := by decide +kernel
theorem dX0_init_5 : decode cX0_init 5 = .ok (.sipush 432, 3) := by decide +kernel
theorem dX0_init_8 : decode cX0_init 8 = .ok (.newarray .int, 2) := by decide +kernel
theorem dX0_init_10 : decode cX0_init 10 = .ok (.putfield 11, 3) := by decide +kernel
theorem dX0_init_13 : decode cX0_init 13 = .ok (.return_, 1) := by decide +kernel
theorem dX0_forgetAll_0 : decode cX0_forgetAll 0 = .ok (.aload_n 0, 1) := by decide +kernel
theorem dX0_forgetAll_1 : decode cX0_forgetAll 1 = .ok (.iconst 0, 1) := by decide +kernel
theorem dX0_forgetAll_2 : decode cX0_forgetAll 2 = .ok (.putfield 15, 3) := by decide +kernel
theorem dX0_forgetAll_5 : decode cX0_forgetAll 5 = .ok (.return_, 1) := by decide +kernel
theorem dX0_keep_0 : decode cX0_keep 0 = .ok (.aload_n 0, 1) := by decide +kernel
theorem dX0_keep_1 : decode cX0_keep 1 = .ok (.getfield 15, 3) := by decide +kernel
theorem dX0_keep_4 : decode cX0_keep 4 = .ok (.bipush 24, 2) := by decide +kernel
theorem dX0_keep_6 : decode cX0_keep 6 = .ok (.if_icmp .ne 26, 3) := by decide +kernel
theorem dX0_keep_9 : decode cX0_keep 9 = .ok (.aload_n 0, 1) := by decide +kernel
theorem dX0_keep_10 : decode cX0_keep 10 = .ok (.aload_n 0, 1) := by decide +kernel
theorem dX0_keep_11 : decode cX0_keep 11 = .ok (.getfield 19, 3) := by decide +kernel
theorem dX0_keep_14 : decode cX0_keep 14 = .ok (.iconst 1, 1) := by decide +kernel
theorem dX0_keep_15 : decode cX0_keep 15 = .ok (.iadd, 1) := by decide +kernel
theorem dX0_keep_16 : decode cX0_keep 16 = .ok (.bipush 24, 2) := by decide +kernel
theorem dX0_keep_18 : decode cX0_keep 18 = .ok (.irem, 1) := by decide +kernel
theorem dX0_keep_19 : decode cX0_keep 19 = .ok (.putfield 19, 3) := by decide +kernel
theorem dX0_keep_22 : decode cX0_keep 22 = .ok (.aload_n 0, 1) := by decide +kernel
theorem dX0_keep_23 : decode cX0_keep 23 = .ok (.dup, 1) := by decide +kernel
theorem dX0_keep_24 : decode cX0_keep 24 = .ok (.getfield 15, 3) := by decide +kernel
theorem dX0_keep_27 : decode cX0_keep 27 = .ok (.iconst 1, 1) := by decide +kernel
theorem dX0_keep_28 : decode cX0_keep 28 = .ok (.isub, 1) := by decide +kernel
theorem dX0_keep_29 : decode cX0_keep 29 = .ok (.putfield 15, 3) := by decide +kernel
theorem dX0_keep_32 : decode cX0_keep 32 = .ok (.aload_n 0, 1) := by decide +kernel
theorem dX0_keep_33 : decode cX0_keep 33 = .ok (.aload_n 0, 1) := by decide +kernel
theorem dX0_keep_34 : decode cX0_keep 34 = .ok (.getfield 15, 3) := by decide +kernel
theorem dX0_keep_37 : decode cX0_keep 37 = .ok (.invokevirtual 22, 3) := by decide +kernel
theorem dX0_keep_40 : decode cX0_keep 40 = .ok (.istore_n 2, 1) := by decide +kernel
theorem dX0_keep_41 : decode cX0_keep 41 = .ok (.aload_n 0, 1) := by decide +kernel
theorem dX0_keep_42 : decode cX0_keep 42 = .ok (.dup, 1) := by decide +kernel
theorem dX0_keep_43 : decode cX0_keep 43 = .ok (.getfield 15, 3) := by decide +kernel
theorem dX0_keep_46 : decode cX0_keep 46 = .ok (.iconst 1, 1) := by decide +kernel
theorem dX0_keep_47 : decode cX0_keep 47 = .ok (.iadd, 1) := by decide +kernel
theorem dX0_keep_48 : decode cX0_keep 48 = .ok (.putfield 15, 3) := by decide +kernel
theorem dX0_keep_51 : decode cX0_keep 51 = .ok (.aload_n 0, 1) := by decide +kernel
theorem dX0_keep_52 : decode cX0_keep 52 = .ok (.getfield 11, 3) := by decide +kernel
theorem dX0_keep_55 : decode cX0_keep 55 = .ok (.iload_n 2, 1) := by decide +kernel
theorem dX0_keep_56 : decode cX0_keep 56 = .ok (.aload_n 1, 1) := by decide +kernel
theorem dX0_keep_57 : decode cX0_keep 57 = .ok (.getfield 26, 3) := by decide +kernel
theorem dX0_keep_60 : decode cX0_keep 60 = .ok (.iastore, 1) := by decide +kernel
theorem dX0_keep_61 : decode cX0_keep 61 = .ok (.aload_n 1, 1) := by decide +kernel
theorem dX0_keep_62 : decode cX0_keep 62 = .ok (.getfield 31, 3) := by decide +kernel
theorem dX0_keep_65 : decode cX0_keep 65 = .ok (.iconst 0, 1) := by decide +kernel
theorem dX0_keep_66 : decode cX0_keep 66 = .ok (.aload_n 0, 1) := by decide +kernel
theorem dX0_keep_67 : decode cX0_keep 67 = .ok (.getfield 11, 3) := by decide +kernel
theorem dX0_keep_70 : decode cX0_keep 70 = .ok (.iload_n 2, 1) := by decide +kernel
theorem dX0_keep_71 : decode cX0_keep 71 = .ok (.iconst 1, 1) := by decide +kernel
theorem dX0_keep_72 : decode cX0_keep 72 = .ok (.iadd, 1) := by decide +kernel
theorem dX0_keep_73 : decode cX0_keep 73 = .ok (.iconst 5, 1) := by decide +kernel
theorem dX0_keep_74 : decode cX0_keep 74 = .ok (.invokestatic 34, 3) := by decide +kernel
theorem dX0_keep_77 : decode cX0_keep 77 = .ok (.iinc 2 6, 3) := by decide +kernel
theorem dX0_keep_80 : decode cX0_keep 80 = .ok (.aload_n 1, 1) := by decide +kernel
theorem dX0_keep_81 : decode cX0_keep 81 = .ok (.getfield 40, 3) := by decide +kernel
theorem dX0_keep_84 : decode cX0_keep 84 = .ok (.iconst 0, 1) := by decide +kernel
theorem dX0_keep_85 : decode cX0_keep 85 = .ok (.aload_n 0, 1) := by decide +kernel
theorem dX0_keep_86 : decode cX0_keep 86 = .ok (.getfield 11, 3) := by decide +kernel
theorem dX0_keep_89 : decode cX0_keep 89 = .ok (.iload_n 2, 1) := by decide +kernel
theorem dX0_keep_90 : decode cX0_keep 90 = .ok (.iconst 4, 1) := by decide +kernel
theorem dX0_keep_91 : decode cX0_keep 91 = .ok (.invokestatic 34, 3) := by decide +kernel
theorem dX0_keep_94 : decode cX0_keep 94 = .ok (.aload_n 1, 1) := by decide +kernel
theorem dX0_keep_95 : decode cX0_keep 95 = .ok (.getfield 43, 3) := by decide +kernel
theorem dX0_keep_98 : decode cX0_keep 98 = .ok (.iconst 0, 1) := by decide +kernel
theorem dX0_keep_99 : decode cX0_keep 99 = .ok (.aload_n 0, 1) := by decide +kernel
theorem dX0_keep_100 : decode cX0_keep 100 = .ok (.getfield 11, 3) := by decide +kernel
theorem dX0_keep_103 : decode cX0_keep 103 = .ok (.iload_n 2, 1) := by decide +kernel
theorem dX0_keep_104 : decode cX0_keep 104 = .ok (.iconst 4, 1) := by decide +kernel
theorem dX0_keep_105 : decode cX0_keep 105 = .ok (.iadd, 1) := by decide +kernel
theorem dX0_keep_106 : decode cX0_keep 106 = .ok (.iconst 4, 1) := by decide +kernel
theorem dX0_keep_107 : decode cX0_keep 107 = .ok (.invokestatic 34, 3) := by decide +kernel
theorem dX0_keep_110 : decode cX0_keep 110 = .ok (.aload_n 1, 1) := by decide +kernel
theorem dX0_keep_111 : decode cX0_keep 111 = .ok (.getfield 46, 3) := by decide +kernel
theorem dX0_keep_114 : decode cX0_keep 114 = .ok (.iconst 0, 1) := by decide +kernel
theorem dX0_keep_115 : decode cX0_keep 115 = .ok (.aload_n 0, 1) := by decide +kernel
theorem dX0_keep_116 : decode cX0_keep 116 = .ok (.getfield 11, 3) := by decide +kernel
theorem dX0_keep_119 : decode cX0_keep 119 = .ok (.iload_n 2, 1) := by decide +kernel
theorem dX0_keep_120 : decode cX0_keep 120 = .ok (.bipush 8, 2) := by decide +kernel
theorem dX0_keep_122 : decode cX0_keep 122 = .ok (.iadd, 1) := by decide +kernel
theorem dX0_keep_123 : decode cX0_keep 123 = .ok (.iconst 4, 1) := by decide +kernel
theorem dX0_keep_124 : decode cX0_keep 124 = .ok (.invokestatic 34, 3) := by decide +kernel
theorem dX0_keep_127 : decode cX0_keep 127 = .ok (.return_, 1) := by decide +kernel
theorem dX0_takeBack_0 : decode cX0_takeBack 0 = .ok (.aload_n 0, 1) := by decide +kernel
theorem dX0_takeBack_1 : decode cX0_takeBack 1 = .ok (.getfield 15, 3) := by decide +kernel
theorem dX0_takeBack_4 : decode cX0_takeBack 4 = .ok (.ifCond .ne 5, 3) := by decide +kernel
theorem dX0_takeBack_7 : decode cX0_takeBack 7 = .ok (.iconst 0, 1) := by decide +kernel
theorem dX0_takeBack_8 : decode cX0_takeBack 8 = .ok (.ireturn, 1) := by decide +kernel
theorem dX0_takeBack_9 : decode cX0_takeBack 9 = .ok (.aload_n 0, 1) := by decide +kernel
theorem dX0_takeBack_10 : decode cX0_takeBack 10 = .ok (.dup, 1) := by decide +kernel
theorem dX0_takeBack_11 : decode cX0_takeBack 11 = .ok (.getfield 15, 3) := by decide +kernel
theorem dX0_takeBack_14 : decode cX0_takeBack 14 = .ok (.iconst 1, 1) := by decide +kernel
theorem dX0_takeBack_15 : decode cX0_takeBack 15 = .ok (.isub, 1) := by decide +kernel
theorem dX0_takeBack_16 : decode cX0_takeBack 16 = .ok (.putfield 15, 3) := by decide +kernel
theorem dX0_takeBack_19 : decode cX0_takeBack 19 = .ok (.aload_n 0, 1) := by decide +kernel
theorem dX0_takeBack_20 : decode cX0_takeBack 20 = .ok (.aload_n 0, 1) := by decide +kernel
theorem dX0_takeBack_21 : decode cX0_takeBack 21 = .ok (.getfield 15, 3) := by decide +kernel
theorem dX0_takeBack_24 : decode cX0_takeBack 24 = .ok (.invokevirtual 22, 3) := by decide +kernel
theorem dX0_takeBack_27 : decode cX0_takeBack 27 = .ok (.istore_n 2, 1) := by decide +kernel
theorem dX0_takeBack_28 : decode cX0_takeBack 28 = .ok (.aload_n 1, 1) := by decide +kernel
theorem dX0_takeBack_29 : decode cX0_takeBack 29 = .ok (.aload_n 0, 1) := by decide +kernel
theorem dX0_takeBack_30 : decode cX0_takeBack 30 = .ok (.getfield 11, 3) := by decide +kernel
theorem dX0_takeBack_33 : decode cX0_takeBack 33 = .ok (.iload_n 2, 1) := by decide +kernel
theorem dX0_takeBack_34 : decode cX0_takeBack 34 = .ok (.iaload, 1) := by decide +kernel
theorem dX0_takeBack_35 : decode cX0_takeBack 35 = .ok (.putfield 26, 3) := by decide +kernel
theorem dX0_takeBack_38 : decode cX0_takeBack 38 = .ok (.aload_n 0, 1) := by decide +kernel
theorem dX0_takeBack_39 : decode cX0_takeBack 39 = .ok (.getfield 11, 3) := by decide +kernel
theorem dX0_takeBack_42 : decode cX0_takeBack 42 = .ok (.iload_n 2, 1) := by decide +kernel
theorem dX0_takeBack_43 : decode cX0_takeBack 43 = .ok (.iconst 1, 1) := by decide +kernel
theorem dX0_takeBack_44 : decode cX0_takeBack 44 = .ok (.iadd, 1) := by decide +kernel
theorem dX0_takeBack_45 : decode cX0_takeBack 45 = .ok (.aload_n 1, 1) := by decide +kernel
theorem dX0_takeBack_46 : decode cX0_takeBack 46 = .ok (.getfield 31, 3) := by decide +kernel
theorem dX0_takeBack_49 : decode cX0_takeBack 49 = .ok (.iconst 0, 1) := by decide +kernel
theorem dX0_takeBack_50 : decode cX0_takeBack 50 = .ok (.iconst 5, 1) := by decide +kernel
theorem dX0_takeBack_51 : decode cX0_takeBack 51 = .ok (.invokestatic 34, 3) := by decide +kernel
theorem dX0_takeBack_54 : decode cX0_takeBack 54 = .ok (.iinc 2 6, 3) := by decide +kernel
theorem dX0_takeBack_57 : decode cX0_takeBack 57 = .ok (.aload_n 0, 1) := by decide +kernel
theorem dX0_takeBack_58 : decode cX0_takeBack 58 = .ok (.getfield 11, 3) := by decide +kernel
theorem dX0_takeBack_61 : decode cX0_takeBack 61 = .ok (.iload_n 2, 1) := by decide +kernel
theorem dX0_takeBack_62 : decode cX0_takeBack 62 = .ok (.aload_n 1, 1) := by decide +kernel
theorem dX0_takeBack_63 : decode cX0_takeBack 63 = .ok (.getfield 40, 3) := by decide +kernel
theorem dX0_takeBack_66 : decode cX0_takeBack 66 = .ok (.iconst 0, 1) := by decide +kernel
theorem dX0_takeBack_67 : decode cX0_takeBack 67 = .ok (.iconst 4, 1) := by decide +kernel
theorem dX0_takeBack_68 : decode cX0_takeBack 68 = .ok (.invokestatic 34, 3) := by decide +kernel
theorem dX0_takeBack_71 : decode cX0_takeBack 71 = .ok (.aload_n 0, 1) := by decide +kernel
theorem dX0_takeBack_72 : decode cX0_takeBack 72 = .ok (.getfield 11, 3) := by decide +kernel
theorem dX0_takeBack_75 : decode cX0_takeBack 75 = .ok (.iload_n 2, 1) := by decide +kernel
theorem dX0_takeBack_76 : decode cX0_takeBack 76 = .ok (.iconst 4, 1) := by decide +kernel
theorem dX0_takeBack_77 : decode cX0_takeBack 77 = .ok (.iadd, 1) := by decide +kernel
theorem dX0_takeBack_78 : decode cX0_takeBack 78 = .ok (.aload_n 1, 1) := by decide +kernel
theorem dX0_takeBack_79 : decode cX0_takeBack 79 = .ok (.getfield 43, 3) := by decide +kernel
theorem dX0_takeBack_82 : decode cX0_takeBack 82 = .ok (.iconst 0, 1) := by decide +kernel
theorem dX0_takeBack_83 : decode cX0_takeBack 83 = .ok (.iconst 4, 1) := by decide +kernel
theorem dX0_takeBack_84 : decode cX0_takeBack 84 = .ok (.invokestatic 34, 3) := by decide +kernel
theorem dX0_takeBack_87 : decode cX0_takeBack 87 = .ok (.aload_n 0, 1) := by decide +kernel
theorem dX0_takeBack_88 : decode cX0_takeBack 88 = .ok (.getfield 11, 3) := by decide +kernel
theorem dX0_takeBack_91 : decode cX0_takeBack 91 = .ok (.iload_n 2, 1) := by decide +kernel
theorem dX0_takeBack_92 : decode cX0_takeBack 92 = .ok (.bipush 8, 2) := by decide +kernel
theorem dX0_takeBack_94 : decode cX0_takeBack 94 = .ok (.iadd, 1) := by decide +kernel
theorem dX0_takeBack_95 : decode cX0_takeBack 95 = .ok (.aload_n 1, 1) := by decide +kernel
theorem dX0_takeBack_96 : decode cX0_takeBack 96 = .ok (.getfield 46, 3) := by decide +kernel
theorem dX0_takeBack_99 : decode cX0_takeBack 99 = .ok (.iconst 0, 1) := by decide +kernel
theorem dX0_takeBack_100 : decode cX0_takeBack 100 = .ok (.iconst 4, 1) := by decide +kernel
theorem dX0_takeBack_101 : decode cX0_takeBack 101 = .ok (.invokestatic 34, 3) := by decide +kernel
theorem dX0_takeBack_104 : decode cX0_takeBack 104 = .ok (.iconst 1, 1) := by decide +kernel
theorem dX0_takeBack_105 : decode cX0_takeBack 105 = .ok (.ireturn, 1) := by decide +kernel
theorem dX0_startOf_0 : decode cX0_startOf 0 = .ok (.aload_n 0, 1) := by decide +kernel
theorem dX0_startOf_1 : decode cX0_startOf 1 = .ok (.getfield 19, 3) := by decide +kernel
theorem dX0_startOf_4 : decode cX0_startOf 4 = .ok (.iload_n 1, 1) := by decide +kernel
theorem dX0_startOf_5 : decode cX0_startOf 5 = .ok (.iadd, 1) := by decide +kernel
theorem dX0_startOf_6 : decode cX0_startOf 6 = .ok (.bipush 24, 2) := by decide +kernel
theorem dX0_startOf_8 : decode cX0_startOf 8 = .ok (.irem, 1) := by decide +kernel
theorem dX0_startOf_9 : decode cX0_startOf 9 = .ok (.bipush 18, 2) := by decide +kernel
theorem dX0_startOf_11 : decode cX0_startOf 11 = .ok (.imul, 1) := by decide +kernel
theorem dX0_startOf_12 : decode cX0_startOf 12 = .ok (.ireturn, 1) := by decide +kernel
theorem dX1_init_0 : decode cX1_init 0 = .ok (.aload_n 0, 1) := by decide +kernel
theorem dX1_init_1 : decode cX1_init 1 = .ok (.invokespecial 3, 3) := by decide +kernel
theorem dX1_init_4 : decode cX1_init 4 = .ok (.aload_n 0, 1) := by decide +kernel
theorem dX1_init_5 : decode cX1_init 5 = .ok (.iconst 5, 1) := by decide +kernel
theorem dX1_init_6 : decode cX1_init 6 = .ok (.newarray .int, 2) := by decide +kernel
theorem dX1_init_8 : decode cX1_init 8 = .ok (.putfield 9, 3) := by decide +kernel
theorem dX1_init_11 : decode cX1_init 11 = .ok (.aload_n 0, 1) := by decide +kernel
theorem dX1_init_12 : decode cX1_init 12 = .ok (.iconst 5, 1) := by decide +kernel
theorem dX1_init_13 : decode cX1_init 13 = .ok (.newarray .int, 2) := by decide +kernel
theorem dX1_init_15 : decode cX1_init 15 = .ok (.putfield 15, 3) := by decide +kernel
theorem dX1_init_18 : decode cX1_init 18 = .ok (.aload_n 0, 1) := by decide +kernel
theorem dX1_init_19 : decode cX1_init 19 = .ok (.iconst 4, 1) := by decide +kernel
theorem dX1_init_20 : decode cX1_init 20 = .ok (.newarray .int, 2) := by decide +kernel
theorem dX1_init_22 : decode cX1_init 22 = .ok (.putfield 18, 3) := by decide +kernel
theorem dX1_init_25 : decode cX1_init 25 = .ok (.aload_n 0, 1) := by decide +kernel
theorem dX1_init_26 : decode cX1_init 26 = .ok (.iconst 4, 1) := by decide +kernel
theorem dX1_init_27 : decode cX1_init 27 = .ok (.newarray .int, 2) := by decide +kernel
theorem dX1_init_29 : decode cX1_init 29 = .ok (.putfield 21, 3) := by decide +kernel
theorem dX1_init_32 : decode cX1_init 32 = .ok (.aload_n 0, 1) := by decide +kernel
theorem dX1_init_33 : decode cX1_init 33 = .ok (.iconst 4, 1) := by decide +kernel
theorem dX1_init_34 : decode cX1_init 34 = .ok (.newarray .int, 2) := by decide +kernel
theorem dX1_init_36 : decode cX1_init 36 = .ok (.putfield 24, 3) := by decide +kernel
theorem dX1_init_39 : decode cX1_init 39 = .ok (.aload_n 0, 1) := by decide +kernel
theorem dX1_init_40 : decode cX1_init 40 = .ok (.iconst 4, 1) := by decide +kernel
theorem dX1_init_41 : decode cX1_init 41 = .ok (.newarray .int, 2) := by decide +kernel
theorem dX1_init_43 : decode cX1_init 43 = .ok (.putfield 27, 3) := by decide +kernel
theorem dX1_init_46 : decode cX1_init 46 = .ok (.aload_n 0, 1) := by decide +kernel
theorem dX1_init_47 : decode cX1_init 47 = .ok (.iconst 4, 1) := by decide +kernel
theorem dX1_init_48 : decode cX1_init 48 = .ok (.newarray .int, 2) := by decide +kernel
theorem dX1_init_50 : decode cX1_init 50 = .ok (.putfield 30, 3) := by decide +kernel
theorem dX1_init_53 : decode cX1_init 53 = .ok (.return_, 1) := by decide +kernel
theorem dX1_close_0 : decode cX1_close 0 = .ok (.aload_n 0, 1) := by decide +kernel
theorem dX1_close_1 : decode cX1_close 1 = .ok (.iconst 0, 1) := by decide +kernel
theorem dX1_close_2 : decode cX1_close 2 = .ok (.putfield 33, 3) := by decide +kernel
theorem dX1_close_5 : decode cX1_close 5 = .ok (.aload_n 0, 1) := by decide +kernel
theorem dX1_close_6 : decode cX1_close 6 = .ok (.iconst 0, 1) := by decide +kernel
theorem dX1_close_7 : decode cX1_close 7 = .ok (.putfield 37, 3) := by decide +kernel
theorem dX1_close_10 : decode cX1_close 10 = .ok (.aload_n 0, 1) := by decide +kernel
theorem dX1_close_11 : decode cX1_close 11 = .ok (.iconst 0, 1) := by decide +kernel
theorem dX1_close_12 : decode cX1_close 12 = .ok (.putfield 40, 3) := by decide +kernel
theorem dX1_close_15 : decode cX1_close 15 = .ok (.return_, 1) := by decide +kernel
theorem dX1_copyFrom_0 : decode cX1_copyFrom 0 = .ok (.aload_n 1, 1) := by decide +kernel
theorem dX1_copyFrom_1 : decode cX1_copyFrom 1 = .ok (.getfield 9, 3) := by decide +kernel
theorem dX1_copyFrom_4 : decode cX1_copyFrom 4 = .ok (.iconst 0, 1) := by decide +kernel
theorem dX1_copyFrom_5 : decode cX1_copyFrom 5 = .ok (.aload_n 0, 1) := by decide +kernel
theorem dX1_copyFrom_6 : decode cX1_copyFrom 6 = .ok (.getfield 9, 3) := by decide +kernel
theorem dX1_copyFrom_9 : decode cX1_copyFrom 9 = .ok (.iconst 0, 1) := by decide +kernel
theorem dX1_copyFrom_10 : decode cX1_copyFrom 10 = .ok (.iconst 5, 1) := by decide +kernel
theorem dX1_copyFrom_11 : decode cX1_copyFrom 11 = .ok (.invokestatic 43, 3) := by decide +kernel
theorem dX1_copyFrom_14 : decode cX1_copyFrom 14 = .ok (.aload_n 1, 1) := by decide +kernel
theorem dX1_copyFrom_15 : decode cX1_copyFrom 15 = .ok (.getfield 15, 3) := by decide +kernel
theorem dX1_copyFrom_18 : decode cX1_copyFrom 18 = .ok (.iconst 0, 1) := by decide +kernel
theorem dX1_copyFrom_19 : decode cX1_copyFrom 19 = .ok (.aload_n 0, 1) := by decide +kernel
theorem dX1_copyFrom_20 : decode cX1_copyFrom 20 = .ok (.getfield 15, 3) := by decide +kernel
theorem dX1_copyFrom_23 : decode cX1_copyFrom 23 = .ok (.iconst 0, 1) := by decide +kernel
theorem dX1_copyFrom_24 : decode cX1_copyFrom 24 = .ok (.iconst 5, 1) := by decide +kernel
theorem dX1_copyFrom_25 : decode cX1_copyFrom 25 = .ok (.invokestatic 43, 3) := by decide +kernel
theorem dX1_copyFrom_28 : decode cX1_copyFrom 28 = .ok (.aload_n 1, 1) := by decide +kernel
theorem dX1_copyFrom_29 : decode cX1_copyFrom 29 = .ok (.getfield 18, 3) := by decide +kernel
theorem dX1_copyFrom_32 : decode cX1_copyFrom 32 = .ok (.iconst 0, 1) := by decide +kernel
theorem dX1_copyFrom_33 : decode cX1_copyFrom 33 = .ok (.aload_n 0, 1) := by decide +kernel
theorem dX1_copyFrom_34 : decode cX1_copyFrom 34 = .ok (.getfield 18, 3) := by decide +kernel
theorem dX1_copyFrom_37 : decode cX1_copyFrom 37 = .ok (.iconst 0, 1) := by decide +kernel
theorem dX1_copyFrom_38 : decode cX1_copyFrom 38 = .ok (.iconst 4, 1) := by decide +kernel
theorem dX1_copyFrom_39 : decode cX1_copyFrom 39 = .ok (.invokestatic 43, 3) := by decide +kernel
theorem dX1_copyFrom_42 : decode cX1_copyFrom 42 = .ok (.aload_n 1, 1) := by decide +kernel
theorem dX1_copyFrom_43 : decode cX1_copyFrom 43 = .ok (.getfield 21, 3) := by decide +kernel
theorem dX1_copyFrom_46 : decode cX1_copyFrom 46 = .ok (.iconst 0, 1) := by decide +kernel
theorem dX1_copyFrom_47 : decode cX1_copyFrom 47 = .ok (.aload_n 0, 1) := by decide +kernel
theorem dX1_copyFrom_48 : decode cX1_copyFrom 48 = .ok (.getfield 21, 3) := by decide +kernel
theorem dX1_copyFrom_51 : decode cX1_copyFrom 51 = .ok (.iconst 0, 1) := by decide +kernel
theorem dX1_copyFrom_52 : decode cX1_copyFrom 52 = .ok (.iconst 4, 1) := by decide +kernel
theorem dX1_copyFrom_53 : decode cX1_copyFrom 53 = .ok (.invokestatic 43, 3) := by decide +kernel
theorem dX1_copyFrom_56 : decode cX1_copyFrom 56 = .ok (.aload_n 1, 1) := by decide +kernel
theorem dX1_copyFrom_57 : decode cX1_copyFrom 57 = .ok (.getfield 24, 3) := by decide +kernel
theorem dX1_copyFrom_60 : decode cX1_copyFrom 60 = .ok (.iconst 0, 1) := by decide +kernel
theorem dX1_copyFrom_61 : decode cX1_copyFrom 61 = .ok (.aload_n 0, 1) := by decide +kernel
theorem dX1_copyFrom_62 : decode cX1_copyFrom 62 = .ok (.getfield 24, 3) := by decide +kernel
theorem dX1_copyFrom_65 : decode cX1_copyFrom 65 = .ok (.iconst 0, 1) := by decide +kernel
theorem dX1_copyFrom_66 : decode cX1_copyFrom 66 = .ok (.iconst 4, 1) := by decide +kernel
theorem dX1_copyFrom_67 : decode cX1_copyFrom 67 = .ok (.invokestatic 43, 3) := by decide +kernel
theorem dX1_copyFrom_70 : decode cX1_copyFrom 70 = .ok (.aload_n 1, 1) := by decide +kernel
theorem dX1_copyFrom_71 : decode cX1_copyFrom 71 = .ok (.getfield 27, 3) := by decide +kernel
theorem dX1_copyFrom_74 : decode cX1_copyFrom 74 = .ok (.iconst 0, 1) := by decide +kernel
theorem dX1_copyFrom_75 : decode cX1_copyFrom 75 = .ok (.aload_n 0, 1) := by decide +kernel
theorem dX1_copyFrom_76 : decode cX1_copyFrom 76 = .ok (.getfield 27, 3) := by decide +kernel
theorem dX1_copyFrom_79 : decode cX1_copyFrom 79 = .ok (.iconst 0, 1) := by decide +kernel
theorem dX1_copyFrom_80 : decode cX1_copyFrom 80 = .ok (.iconst 4, 1) := by decide +kernel
theorem dX1_copyFrom_81 : decode cX1_copyFrom 81 = .ok (.invokestatic 43, 3) := by decide +kernel
theorem dX1_copyFrom_84 : decode cX1_copyFrom 84 = .ok (.aload_n 1, 1) := by decide +kernel
theorem dX1_copyFrom_85 : decode cX1_copyFrom 85 = .ok (.getfield 30, 3) := by decide +kernel
theorem dX1_copyFrom_88 : decode cX1_copyFrom 88 = .ok (.iconst 0, 1) := by decide +kernel
theorem dX1_copyFrom_89 : decode cX1_copyFrom 89 = .ok (.aload_n 0, 1) := by decide +kernel
theorem dX1_copyFrom_90 : decode cX1_copyFrom 90 = .ok (.getfield 30, 3) := by decide +kernel
theorem dX1_copyFrom_93 : decode cX1_copyFrom 93 = .ok (.iconst 0, 1) := by decide +kernel
theorem dX1_copyFrom_94 : decode cX1_copyFrom 94 = .ok (.iconst 4, 1) := by decide +kernel
theorem dX1_copyFrom_95 : decode cX1_copyFrom 95 = .ok (.invokestatic 43, 3) := by decide +kernel
theorem dX1_copyFrom_98 : decode cX1_copyFrom 98 = .ok (.aload_n 0, 1) := by decide +kernel
theorem dX1_copyFrom_99 : decode cX1_copyFrom 99 = .ok (.aload_n 1, 1) := by decide +kernel
theorem dX1_copyFrom_100 : decode cX1_copyFrom 100 = .ok (.getfield 33, 3) := by decide +kernel
theorem dX1_copyFrom_103 : decode cX1_copyFrom 103 = .ok (.putfield 33, 3) := by decide +kernel
theorem dX1_copyFrom_106 : decode cX1_copyFrom 106 = .ok (.aload_n 0, 1) := by decide +kernel
theorem dX1_copyFrom_107 : decode cX1_copyFrom 107 = .ok (.aload_n 1, 1) := by decide +kernel
theorem dX1_copyFrom_108 : decode cX1_copyFrom 108 = .ok (.getfield 37, 3) := by decide +kernel
theorem dX1_copyFrom_111 : decode cX1_copyFrom 111 = .ok (.putfield 37, 3) := by decide +kernel
theorem dX1_copyFrom_114 : decode cX1_copyFrom 114 = .ok (.aload_n 0, 1) := by decide +kernel
theorem dX1_copyFrom_115 : decode cX1_copyFrom 115 = .ok (.aload_n 1, 1) := by decide +kernel
theorem dX1_copyFrom_116 : decode cX1_copyFrom 116 = .ok (.getfield 49, 3) := by decide +kernel
theorem dX1_copyFrom_119 : decode cX1_copyFrom 119 = .ok (.putfield 49, 3) := by decide +kernel
theorem dX1_copyFrom_122 : decode cX1_copyFrom 122 = .ok (.aload_n 0, 1) := by decide +kernel
theorem dX1_copyFrom_123 : decode cX1_copyFrom 123 = .ok (.aload_n 1, 1) := by decide +kernel
theorem dX1_copyFrom_124 : decode cX1_copyFrom 124 = .ok (.getfield 52, 3) := by decide +kernel
theorem dX1_copyFrom_127 : decode cX1_copyFrom 127 = .ok (.putfield 52, 3) := by decide +kernel
theorem dX1_copyFrom_130 : decode cX1_copyFrom 130 = .ok (.aload_n 0, 1) := by decide +kernel
theorem dX1_copyFrom_131 : decode cX1_copyFrom 131 = .ok (.aload_n 1, 1) := by decide +kernel
theorem dX1_copyFrom_132 : decode cX1_copyFrom 132 = .ok (.getfield 40, 3) := by decide +kernel
theorem dX1_copyFrom_135 : decode cX1_copyFrom 135 = .ok (.putfield 40, 3) := by decide +kernel
theorem dX1_copyFrom_138 : decode cX1_copyFrom 138 = .ok (.return_, 1) := by decide +kernel
theorem dX1_isOpen_0 : decode cX1_isOpen 0 = .ok (.aload_n 0, 1) := by decide +kernel
theorem dX1_isOpen_1 : decode cX1_isOpen 1 = .ok (.getfield 33, 3) := by decide +kernel
theorem dX1_isOpen_4 : decode cX1_isOpen 4 = .ok (.ifCond .le 7, 3) := by decide +kernel
theorem dX1_isOpen_7 : decode cX1_isOpen 7 = .ok (.iconst 1, 1) := by decide +kernel
theorem dX1_isOpen_8 : decode cX1_isOpen 8 = .ok (.goto 4, 3) := by decide +kernel
theorem dX1_isOpen_11 : decode cX1_isOpen 11 = .ok (.iconst 0, 1) := by decide +kernel
theorem dX1_isOpen_12 : decode cX1_isOpen 12 = .ok (.ireturn, 1) := by decide +kernel
theorem dX1_hasClient_0 : decode cX1_hasClient 0 = .ok (.iload_n 1, 1) := by decide +kernel
theorem dX1_hasClient_1 : decode cX1_hasClient 1 = .ok (.ifCond .lt 15, 3) := by decide +kernel
theorem dX1_hasClient_4 : decode cX1_hasClient 4 = .ok (.iload_n 1, 1) := by decide +kernel
theorem dX1_hasClient_5 : decode cX1_hasClient 5 = .ok (.aload_n 0, 1) := by decide +kernel
theorem dX1_hasClient_6 : decode cX1_hasClient 6 = .ok (.getfield 33, 3) := by decide +kernel
theorem dX1_hasClient_9 : decode cX1_hasClient 9 = .ok (.if_icmp .ge 7, 3) := by decide +kernel
theorem dX1_hasClient_12 : decode cX1_hasClient 12 = .ok (.iconst 1, 1) := by decide +kernel
theorem dX1_hasClient_13 : decode cX1_hasClient 13 = .ok (.goto 4, 3) := by decide +kernel
theorem dX1_hasClient_16 : decode cX1_hasClient 16 = .ok (.iconst 0, 1) := by decide +kernel
theorem dX1_hasClient_17 : decode cX1_hasClient 17 = .ok (.ireturn, 1) := by decide +kernel
theorem dX1_hasWaker_0 : decode cX1_hasWaker 0 = .ok (.iload_n 1, 1) := by decide +kernel
theorem dX1_hasWaker_1 : decode cX1_hasWaker 1 = .ok (.ifCond .lt 15, 3) := by decide +kernel
theorem dX1_hasWaker_4 : decode cX1_hasWaker 4 = .ok (.iload_n 1, 1) := by decide +kernel
theorem dX1_hasWaker_5 : decode cX1_hasWaker 5 = .ok (.aload_n 0, 1) := by decide +kernel
theorem dX1_hasWaker_6 : decode cX1_hasWaker 6 = .ok (.getfield 37, 3) := by decide +kernel
theorem dX1_hasWaker_9 : decode cX1_hasWaker 9 = .ok (.if_icmp .ge 7, 3) := by decide +kernel
theorem dX1_hasWaker_12 : decode cX1_hasWaker 12 = .ok (.iconst 1, 1) := by decide +kernel
theorem dX1_hasWaker_13 : decode cX1_hasWaker 13 = .ok (.goto 4, 3) := by decide +kernel
theorem dX1_hasWaker_16 : decode cX1_hasWaker 16 = .ok (.iconst 0, 1) := by decide +kernel
theorem dX1_hasWaker_17 : decode cX1_hasWaker 17 = .ok (.ireturn, 1) := by decide +kernel
theorem dX1_hasAll_0 : decode cX1_hasAll 0 = .ok (.iload_n 1, 1) := by decide +kernel
theorem dX1_hasAll_1 : decode cX1_hasAll 1 = .ok (.ifCond .lt 17, 3) := by decide +kernel
theorem dX1_hasAll_4 : decode cX1_hasAll 4 = .ok (.iload_n 1, 1) := by decide +kernel
theorem dX1_hasAll_5 : decode cX1_hasAll 5 = .ok (.iconst 1, 1) := by decide +kernel
theorem dX1_hasAll_6 : decode cX1_hasAll 6 = .ok (.aload_n 0, 1) := by decide +kernel
theorem dX1_hasAll_7 : decode cX1_hasAll 7 = .ok (.getfield 33, 3) := by decide +kernel
theorem dX1_hasAll_10 : decode cX1_hasAll 10 = .ok (.ishl, 1) := by decide +kernel
theorem dX1_hasAll_11 : decode cX1_hasAll 11 = .ok (.if_icmp .ge 7, 3) := by decide +kernel
theorem dX1_hasAll_14 : decode cX1_hasAll 14 = .ok (.iconst 1, 1) := by decide +kernel
theorem dX1_hasAll_15 : decode cX1_hasAll 15 = .ok (.goto 4, 3) := by decide +kernel
theorem dX1_hasAll_18 : decode cX1_hasAll 18 = .ok (.iconst 0, 1) := by decide +kernel
theorem dX1_hasAll_19 : decode cX1_hasAll 19 = .ok (.ireturn, 1) := by decide +kernel
theorem dX1_lying_0 : decode cX1_lying 0 = .ok (.aload_n 0, 1) := by decide +kernel
theorem dX1_lying_1 : decode cX1_lying 1 = .ok (.iload_n 1, 1) := by decide +kernel
theorem dX1_lying_2 : decode cX1_lying 2 = .ok (.invokevirtual 55, 3) := by decide +kernel
theorem dX1_lying_5 : decode cX1_lying 5 = .ok (.ifCond .eq 11, 3) := by decide +kernel
theorem dX1_lying_8 : decode cX1_lying 8 = .ok (.aload_n 0, 1) := by decide +kernel
theorem dX1_lying_9 : decode cX1_lying 9 = .ok (.iload_n 2, 1) := by decide +kernel
theorem dX1_lying_10 : decode cX1_lying 10 = .ok (.invokevirtual 59, 3) := by decide +kernel
theorem dX1_lying_13 : decode cX1_lying 13 = .ok (.ifCond .ne 5, 3) := by decide +kernel
theorem dX1_lying_16 : decode cX1_lying 16 = .ok (.iconst 0, 1) := by decide +kernel
theorem dX1_lying_17 : decode cX1_lying 17 = .ok (.ireturn, 1) := by decide +kernel
theorem dX1_lying_18 : decode cX1_lying 18 = .ok (.aload_n 0, 1) := by decide +kernel
theorem dX1_lying_19 : decode cX1_lying 19 = .ok (.getfield 21, 3) := by decide +kernel
theorem dX1_lying_22 : decode cX1_lying 22 = .ok (.iload_n 1, 1) := by decide +kernel
theorem dX1_lying_23 : decode cX1_lying 23 = .ok (.iaload, 1) := by decide +kernel
theorem dX1_lying_24 : decode cX1_lying 24 = .ok (.istore 4, 2) := by decide +kernel
theorem dX1_lying_26 : decode cX1_lying 26 = .ok (.aload_n 0, 1) := by decide +kernel
theorem dX1_lying_27 : decode cX1_lying 27 = .ok (.getfield 18, 3) := by decide +kernel
theorem dX1_lying_30 : decode cX1_lying 30 = .ok (.iload_n 1, 1) := by decide +kernel
theorem dX1_lying_31 : decode cX1_lying 31 = .ok (.iaload, 1) := by decide +kernel
theorem dX1_lying_32 : decode cX1_lying 32 = .ok (.tableswitch 98 2 5 #[32, 50, 75, 82], 32) := by decide +kernel
theorem dX1_lying_64 : decode cX1_lying 64 = .ok (.iload_n 3, 1) := by decide +kernel
theorem dX1_lying_65 : decode cX1_lying 65 = .ok (.bipush 7, 2) := by decide +kernel
theorem dX1_lying_67 : decode cX1_lying 67 = .ok (.irem, 1) := by decide +kernel
theorem dX1_lying_68 : decode cX1_lying 68 = .ok (.aload_n 0, 1) := by decide +kernel
theorem dX1_lying_69 : decode cX1_lying 69 = .ok (.getfield 52, 3) := by decide +kernel
theorem dX1_lying_72 : decode cX1_lying 72 = .ok (.if_icmp .ne 7, 3) := by decide +kernel
theorem dX1_lying_75 : decode cX1_lying 75 = .ok (.iconst 0, 1) := by decide +kernel
theorem dX1_lying_76 : decode cX1_lying 76 = .ok (.goto 5, 3) := by decide +kernel
theorem dX1_lying_79 : decode cX1_lying 79 = .ok (.iload 4, 2) := by decide +kernel
theorem dX1_lying_81 : decode cX1_lying 81 = .ok (.ireturn, 1) := by decide +kernel
theorem dX1_lying_82 : decode cX1_lying 82 = .ok (.aload_n 0, 1) := by decide +kernel
theorem dX1_lying_83 : decode cX1_lying 83 = .ok (.getfield 24, 3) := by decide +kernel
theorem dX1_lying_86 : decode cX1_lying 86 = .ok (.iload_n 1, 1) := by decide +kernel
theorem dX1_lying_87 : decode cX1_lying 87 = .ok (.iaload, 1) := by decide +kernel
theorem dX1_lying_88 : decode cX1_lying 88 = .ok (.aload_n 0, 1) := by decide +kernel
theorem dX1_lying_89 : decode cX1_lying 89 = .ok (.getfield 15, 3) := by decide +kernel
theorem dX1_lying_92 : decode cX1_lying 92 = .ok (.iload_n 2, 1) := by decide +kernel
theorem dX1_lying_93 : decode cX1_lying 93 = .ok (.iaload, 1) := by decide +kernel
theorem dX1_lying_94 : decode cX1_lying 94 = .ok (.if_icmp .ne 10, 3) := by decide +kernel
theorem dX1_lying_97 : decode cX1_lying 97 = .ok (.iconst 2, 1) := by decide +kernel
theorem dX1_lying_98 : decode cX1_lying 98 = .ok (.iload 4, 2) := by decide +kernel
theorem dX1_lying_100 : decode cX1_lying 100 = .ok (.imul, 1) := by decide +kernel
theorem dX1_lying_101 : decode cX1_lying 101 = .ok (.goto 5, 3) := by decide +kernel
theorem dX1_lying_104 : decode cX1_lying 104 = .ok (.iload 4, 2) := by decide +kernel
theorem dX1_lying_106 : decode cX1_lying 106 = .ok (.ireturn, 1) := by decide +kernel
theorem dX1_lying_107 : decode cX1_lying 107 = .ok (.iload 4, 2) := by decide +kernel
theorem dX1_lying_109 : decode cX1_lying 109 = .ok (.iload_n 3, 1) := by decide +kernel
theorem dX1_lying_110 : decode cX1_lying 110 = .ok (.invokestatic 62, 3) := by decide +kernel
theorem dX1_lying_113 : decode cX1_lying 113 = .ok (.ireturn, 1) := by decide +kernel
theorem dX1_lying_114 : decode cX1_lying 114 = .ok (.bipush 9, 2) := by decide +kernel
theorem dX1_lying_116 : decode cX1_lying 116 = .ok (.iload 4, 2) := by decide +kernel
theorem dX1_lying_118 : decode cX1_lying 118 = .ok (.iload_n 3, 1) := by decide +kernel
theorem dX1_lying_119 : decode cX1_lying 119 = .ok (.invokestatic 62, 3) := by decide +kernel
theorem dX1_lying_122 : decode cX1_lying 122 = .ok (.iload_n 3, 1) := by decide +kernel
theorem dX1_lying_123 : decode cX1_lying 123 = .ok (.iconst 2, 1) := by decide +kernel
theorem dX1_lying_124 : decode cX1_lying 124 = .ok (.idiv, 1) := by decide +kernel
theorem dX1_lying_125 : decode cX1_lying 125 = .ok (.iadd, 1) := by decide +kernel
theorem dX1_lying_126 : decode cX1_lying 126 = .ok (.invokestatic 66, 3) := by decide +kernel
theorem dX1_lying_129 : decode cX1_lying 129 = .ok (.ireturn, 1) := by decide +kernel
theorem dX1_lying_130 : decode cX1_lying 130 = .ok (.iload 4, 2) := by decide +kernel
theorem dX1_lying_132 : decode cX1_lying 132 = .ok (.ireturn, 1) := by decide +kernel
theorem dX1_guarding_0 : decode cX1_guarding 0 = .ok (.iload_n 1, 1) := by decide +kernel
theorem dX1_guarding_1 : decode cX1_guarding 1 = .ok (.iconst 3, 1) := by decide +kernel
theorem dX1_guarding_2 : decode cX1_guarding 2 = .ok (.irem, 1) := by decide +kernel
theorem dX1_guarding_3 : decode cX1_guarding 3 = .ok (.iconst 2, 1) := by decide +kernel
theorem dX1_guarding_4 : decode cX1_guarding 4 = .ok (.if_icmp .ne 7, 3) := by decide +kernel
theorem dX1_guarding_7 : decode cX1_guarding 7 = .ok (.iconst 0, 1) := by decide +kernel
theorem dX1_guarding_8 : decode cX1_guarding 8 = .ok (.goto 4, 3) := by decide +kernel
theorem dX1_guarding_11 : decode cX1_guarding 11 = .ok (.iload_n 0, 1) := by decide +kernel
theorem dX1_guarding_12 : decode cX1_guarding 12 = .ok (.ireturn, 1) := by decide +kernel
theorem dX1_takenBy_0 : decode cX1_takenBy 0 = .ok (.aload_n 0, 1) := by decide +kernel
theorem dX1_takenBy_1 : decode cX1_takenBy 1 = .ok (.iload_n 1, 1) := by decide +kernel
theorem dX1_takenBy_2 : decode cX1_takenBy 2 = .ok (.invokevirtual 55, 3) := by decide +kernel
theorem dX1_takenBy_5 : decode cX1_takenBy 5 = .ok (.ifCond .eq 11, 3) := by decide +kernel
theorem dX1_takenBy_8 : decode cX1_takenBy 8 = .ok (.aload_n 0, 1) := by decide +kernel
theorem dX1_takenBy_9 : decode cX1_takenBy 9 = .ok (.iload_n 2, 1) := by decide +kernel
theorem dX1_takenBy_10 : decode cX1_takenBy 10 = .ok (.invokevirtual 59, 3) := by decide +kernel
theorem dX1_takenBy_13 : decode cX1_takenBy 13 = .ok (.ifCond .ne 5, 3) := by decide +kernel
theorem dX1_takenBy_16 : decode cX1_takenBy 16 = .ok (.iconst 0, 1) := by decide +kernel
theorem dX1_takenBy_17 : decode cX1_takenBy 17 = .ok (.ireturn, 1) := by decide +kernel
theorem dX1_takenBy_18 : decode cX1_takenBy 18 = .ok (.aload_n 0, 1) := by decide +kernel
theorem dX1_takenBy_19 : decode cX1_takenBy 19 = .ok (.iload_n 1, 1) := by decide +kernel
theorem dX1_takenBy_20 : decode cX1_takenBy 20 = .ok (.iload_n 2, 1) := by decide +kernel
theorem dX1_takenBy_21 : decode cX1_takenBy 21 = .ok (.iload_n 3, 1) := by decide +kernel
theorem dX1_takenBy_22 : decode cX1_takenBy 22 = .ok (.invokevirtual 71, 3) := by decide +kernel
theorem dX1_takenBy_25 : decode cX1_takenBy 25 = .ok (.istore 4, 2) := by decide +kernel
theorem dX1_takenBy_27 : decode cX1_takenBy 27 = .ok (.aload_n 0, 1) := by decide +kernel
theorem dX1_takenBy_28 : decode cX1_takenBy 28 = .ok (.getfield 24, 3) := by decide +kernel
theorem dX1_takenBy_31 : decode cX1_takenBy 31 = .ok (.iload_n 1, 1) := by decide +kernel
theorem dX1_takenBy_32 : decode cX1_takenBy 32 = .ok (.iaload, 1) := by decide +kernel
theorem dX1_takenBy_33 : decode cX1_takenBy 33 = .ok (.aload_n 0, 1) := by decide +kernel
theorem dX1_takenBy_34 : decode cX1_takenBy 34 = .ok (.getfield 15, 3) := by decide +kernel
theorem dX1_takenBy_37 : decode cX1_takenBy 37 = .ok (.iload_n 2, 1) := by decide +kernel
theorem dX1_takenBy_38 : decode cX1_takenBy 38 = .ok (.iaload, 1) := by decide +kernel
theorem dX1_takenBy_39 : decode cX1_takenBy 39 = .ok (.if_icmp .ne 8, 3) := by decide +kernel
theorem dX1_takenBy_42 : decode cX1_takenBy 42 = .ok (.iload 4, 2) := by decide +kernel
theorem dX1_takenBy_44 : decode cX1_takenBy 44 = .ok (.goto 7, 3) := by decide +kernel
theorem dX1_takenBy_47 : decode cX1_takenBy 47 = .ok (.iload 4, 2) := by decide +kernel
theorem dX1_takenBy_49 : decode cX1_takenBy 49 = .ok (.iconst 2, 1) := by decide +kernel
theorem dX1_takenBy_50 : decode cX1_takenBy 50 = .ok (.idiv, 1) := by decide +kernel
theorem dX1_takenBy_51 : decode cX1_takenBy 51 = .ok (.ireturn, 1) := by decide +kernel
theorem dX1_lighterBy_0 : decode cX1_lighterBy 0 = .ok (.iconst 0, 1) := by decide +kernel
theorem dX1_lighterBy_1 : decode cX1_lighterBy 1 = .ok (.istore_n 3, 1) := by decide +kernel
theorem dX1_lighterBy_2 : decode cX1_lighterBy 2 = .ok (.aload_n 0, 1) := by decide +kernel
theorem dX1_lighterBy_3 : decode cX1_lighterBy 3 = .ok (.iload_n 1, 1) := by decide +kernel
theorem dX1_lighterBy_4 : decode cX1_lighterBy 4 = .ok (.invokevirtual 75, 3) := by decide +kernel
theorem dX1_lighterBy_7 : decode cX1_lighterBy 7 = .ok (.iload_n 2, 1) := by decide +kernel
theorem dX1_lighterBy_8 : decode cX1_lighterBy 8 = .ok (.iand, 1) := by decide +kernel
theorem dX1_lighterBy_9 : decode cX1_lighterBy 9 = .ok (.istore 4, 2) := by decide +kernel
theorem dX1_lighterBy_11 : decode cX1_lighterBy 11 = .ok (.iconst 0, 1) := by decide +kernel
theorem dX1_lighterBy_12 : decode cX1_lighterBy 12 = .ok (.istore 5, 2) := by decide +kernel
theorem dX1_lighterBy_14 : decode cX1_lighterBy 14 = .ok (.iload 5, 2) := by decide +kernel
theorem dX1_lighterBy_16 : decode cX1_lighterBy 16 = .ok (.aload_n 0, 1) := by decide +kernel
theorem dX1_lighterBy_17 : decode cX1_lighterBy 17 = .ok (.getfield 37, 3) := by decide +kernel
theorem dX1_lighterBy_20 : decode cX1_lighterBy 20 = .ok (.if_icmp .ge 36, 3) := by decide +kernel
theorem dX1_lighterBy_23 : decode cX1_lighterBy 23 = .ok (.iload 4, 2) := by decide +kernel
theorem dX1_lighterBy_25 : decode cX1_lighterBy 25 = .ok (.iload 5, 2) := by decide +kernel
theorem dX1_lighterBy_27 : decode cX1_lighterBy 27 = .ok (.ishr, 1) := by decide +kernel
theorem dX1_lighterBy_28 : decode cX1_lighterBy 28 = .ok (.iconst 1, 1) := by decide +kernel
theorem dX1_lighterBy_29 : decode cX1_lighterBy 29 = .ok (.iand, 1) := by decide +kernel
theorem dX1_lighterBy_30 : decode cX1_lighterBy 30 = .ok (.iconst 1, 1) := by decide +kernel
theorem dX1_lighterBy_31 : decode cX1_lighterBy 31 = .ok (.if_icmp .ne 19, 3) := by decide +kernel
theorem dX1_lighterBy_34 : decode cX1_lighterBy 34 = .ok (.iload_n 3, 1) := by decide +kernel
theorem dX1_lighterBy_35 : decode cX1_lighterBy 35 = .ok (.aload_n 0, 1) := by decide +kernel
theorem dX1_lighterBy_36 : decode cX1_lighterBy 36 = .ok (.iload 5, 2) := by decide +kernel
theorem dX1_lighterBy_38 : decode cX1_lighterBy 38 = .ok (.iload_n 1, 1) := by decide +kernel
theorem dX1_lighterBy_39 : decode cX1_lighterBy 39 = .ok (.aload_n 0, 1) := by decide +kernel
theorem dX1_lighterBy_40 : decode cX1_lighterBy 40 = .ok (.getfield 40, 3) := by decide +kernel
theorem dX1_lighterBy_43 : decode cX1_lighterBy 43 = .ok (.invokevirtual 79, 3) := by decide +kernel
theorem dX1_lighterBy_46 : decode cX1_lighterBy 46 = .ok (.invokestatic 82, 3) := by decide +kernel
theorem dX1_lighterBy_49 : decode cX1_lighterBy 49 = .ok (.istore_n 3, 1) := by decide +kernel
theorem dX1_lighterBy_50 : decode cX1_lighterBy 50 = .ok (.iinc 5 1, 3) := by decide +kernel
theorem dX1_lighterBy_53 : decode cX1_lighterBy 53 = .ok (.goto (-39), 3) := by decide +kernel
theorem dX1_lighterBy_56 : decode cX1_lighterBy 56 = .ok (.iload_n 3, 1) := by decide +kernel
theorem dX1_lighterBy_57 : decode cX1_lighterBy 57 = .ok (.ireturn, 1) := by decide +kernel
theorem dX1_hiredBy_0 : decode cX1_hiredBy 0 = .ok (.iconst 0, 1) := by decide +kernel
theorem dX1_hiredBy_1 : decode cX1_hiredBy 1 = .ok (.istore_n 2, 1) := by decide +kernel
theorem dX1_hiredBy_2 : decode cX1_hiredBy 2 = .ok (.iconst 0, 1) := by decide +kernel
theorem dX1_hiredBy_3 : decode cX1_hiredBy 3 = .ok (.istore_n 3, 1) := by decide +kernel
theorem dX1_hiredBy_4 : decode cX1_hiredBy 4 = .ok (.iload_n 3, 1) := by decide +kernel
theorem dX1_hiredBy_5 : decode cX1_hiredBy 5 = .ok (.aload_n 0, 1) := by decide +kernel
theorem dX1_hiredBy_6 : decode cX1_hiredBy 6 = .ok (.getfield 37, 3) := by decide +kernel
theorem dX1_hiredBy_9 : decode cX1_hiredBy 9 = .ok (.if_icmp .ge 25, 3) := by decide +kernel
theorem dX1_hiredBy_12 : decode cX1_hiredBy 12 = .ok (.aload_n 0, 1) := by decide +kernel
theorem dX1_hiredBy_13 : decode cX1_hiredBy 13 = .ok (.getfield 27, 3) := by decide +kernel
theorem dX1_hiredBy_16 : decode cX1_hiredBy 16 = .ok (.iload_n 3, 1) := by decide +kernel
theorem dX1_hiredBy_17 : decode cX1_hiredBy 17 = .ok (.iaload, 1) := by decide +kernel
theorem dX1_hiredBy_18 : decode cX1_hiredBy 18 = .ok (.iload_n 1, 1) := by decide +kernel
theorem dX1_hiredBy_19 : decode cX1_hiredBy 19 = .ok (.if_icmp .ne 9, 3) := by decide +kernel
theorem dX1_hiredBy_22 : decode cX1_hiredBy 22 = .ok (.iload_n 2, 1) := by decide +kernel
theorem dX1_hiredBy_23 : decode cX1_hiredBy 23 = .ok (.iconst 1, 1) := by decide +kernel
theorem dX1_hiredBy_24 : decode cX1_hiredBy 24 = .ok (.iload_n 3, 1) := by decide +kernel
theorem dX1_hiredBy_25 : decode cX1_hiredBy 25 = .ok (.ishl, 1) := by decide +kernel
theorem dX1_hiredBy_26 : decode cX1_hiredBy 26 = .ok (.ior, 1) := by decide +kernel
theorem dX1_hiredBy_27 : decode cX1_hiredBy 27 = .ok (.istore_n 2, 1) := by decide +kernel
theorem dX1_hiredBy_28 : decode cX1_hiredBy 28 = .ok (.iinc 3 1, 3) := by decide +kernel
theorem dX1_hiredBy_31 : decode cX1_hiredBy 31 = .ok (.goto (-27), 3) := by decide +kernel
theorem dX1_hiredBy_34 : decode cX1_hiredBy 34 = .ok (.iload_n 2, 1) := by decide +kernel
theorem dX1_hiredBy_35 : decode cX1_hiredBy 35 = .ok (.ireturn, 1) := by decide +kernel
theorem dX1_passNight_0 : decode cX1_passNight 0 = .ok (.iconst 0, 1) := by decide +kernel
theorem dX1_passNight_1 : decode cX1_passNight 1 = .ok (.istore_n 2, 1) := by decide +kernel
theorem dX1_passNight_2 : decode cX1_passNight 2 = .ok (.iload_n 2, 1) := by decide +kernel
theorem dX1_passNight_3 : decode cX1_passNight 3 = .ok (.aload_n 0, 1) := by decide +kernel
theorem dX1_passNight_4 : decode cX1_passNight 4 = .ok (.getfield 33, 3) := by decide +kernel
theorem dX1_passNight_7 : decode cX1_passNight 7 = .ok (.if_icmp .ge 30, 3) := by decide +kernel
theorem dX1_passNight_10 : decode cX1_passNight 10 = .ok (.aload_n 0, 1) := by decide +kernel
theorem dX1_passNight_11 : decode cX1_passNight 11 = .ok (.getfield 9, 3) := by decide +kernel
theorem dX1_passNight_14 : decode cX1_passNight 14 = .ok (.iload_n 2, 1) := by decide +kernel
theorem dX1_passNight_15 : decode cX1_passNight 15 = .ok (.aload_n 0, 1) := by decide +kernel
theorem dX1_passNight_16 : decode cX1_passNight 16 = .ok (.getfield 9, 3) := by decide +kernel
theorem dX1_passNight_19 : decode cX1_passNight 19 = .ok (.iload_n 2, 1) := by decide +kernel
theorem dX1_passNight_20 : decode cX1_passNight 20 = .ok (.iaload, 1) := by decide +kernel
theorem dX1_passNight_21 : decode cX1_passNight 21 = .ok (.aload_n 0, 1) := by decide +kernel
theorem dX1_passNight_22 : decode cX1_passNight 22 = .ok (.iload_n 2, 1) := by decide +kernel
theorem dX1_passNight_23 : decode cX1_passNight 23 = .ok (.iload_n 1, 1) := by decide +kernel
theorem dX1_passNight_24 : decode cX1_passNight 24 = .ok (.invokevirtual 85, 3) := by decide +kernel
theorem dX1_passNight_27 : decode cX1_passNight 27 = .ok (.invokestatic 88, 3) := by decide +kernel
theorem dX1_passNight_30 : decode cX1_passNight 30 = .ok (.iastore, 1) := by decide +kernel
theorem dX1_passNight_31 : decode cX1_passNight 31 = .ok (.iinc 2 1, 3) := by decide +kernel
theorem dX1_passNight_34 : decode cX1_passNight 34 = .ok (.goto (-32), 3) := by decide +kernel
theorem dX1_passNight_37 : decode cX1_passNight 37 = .ok (.iconst 0, 1) := by decide +kernel
theorem dX1_passNight_38 : decode cX1_passNight 38 = .ok (.istore_n 2, 1) := by decide +kernel
theorem dX1_passNight_39 : decode cX1_passNight 39 = .ok (.iload_n 2, 1) := by decide +kernel
theorem dX1_passNight_40 : decode cX1_passNight 40 = .ok (.aload_n 0, 1) := by decide +kernel
theorem dX1_passNight_41 : decode cX1_passNight 41 = .ok (.getfield 37, 3) := by decide +kernel
theorem dX1_passNight_44 : decode cX1_passNight 44 = .ok (.if_icmp .ge 42, 3) := by decide +kernel
theorem dX1_passNight_47 : decode cX1_passNight 47 = .ok (.iload_n 1, 1) := by decide +kernel
theorem dX1_passNight_48 : decode cX1_passNight 48 = .ok (.iload_n 2, 1) := by decide +kernel
theorem dX1_passNight_49 : decode cX1_passNight 49 = .ok (.ishr, 1) := by decide +kernel
theorem dX1_passNight_50 : decode cX1_passNight 50 = .ok (.iconst 1, 1) := by decide +kernel
theorem dX1_passNight_51 : decode cX1_passNight 51 = .ok (.iand, 1) := by decide +kernel
theorem dX1_passNight_52 : decode cX1_passNight 52 = .ok (.iconst 1, 1) := by decide +kernel
theorem dX1_passNight_53 : decode cX1_passNight 53 = .ok (.if_icmp .ne 27, 3) := by decide +kernel
theorem dX1_passNight_56 : decode cX1_passNight 56 = .ok (.aload_n 0, 1) := by decide +kernel
theorem dX1_passNight_57 : decode cX1_passNight 57 = .ok (.getfield 30, 3) := by decide +kernel
theorem dX1_passNight_60 : decode cX1_passNight 60 = .ok (.iload_n 2, 1) := by decide +kernel
theorem dX1_passNight_61 : decode cX1_passNight 61 = .ok (.dup2, 1) := by decide +kernel
theorem dX1_passNight_62 : decode cX1_passNight 62 = .ok (.iaload, 1) := by decide +kernel
theorem dX1_passNight_63 : decode cX1_passNight 63 = .ok (.aload_n 0, 1) := by decide +kernel
theorem dX1_passNight_64 : decode cX1_passNight 64 = .ok (.iload_n 2, 1) := by decide +kernel
theorem dX1_passNight_65 : decode cX1_passNight 65 = .ok (.aload_n 0, 1) := by decide +kernel
theorem dX1_passNight_66 : decode cX1_passNight 66 = .ok (.getfield 27, 3) := by decide +kernel
theorem dX1_passNight_69 : decode cX1_passNight 69 = .ok (.iload_n 2, 1) := by decide +kernel
theorem dX1_passNight_70 : decode cX1_passNight 70 = .ok (.iaload, 1) := by decide +kernel
theorem dX1_passNight_71 : decode cX1_passNight 71 = .ok (.aload_n 0, 1) := by decide +kernel
theorem dX1_passNight_72 : decode cX1_passNight 72 = .ok (.getfield 40, 3) := by decide +kernel
theorem dX1_passNight_75 : decode cX1_passNight 75 = .ok (.invokevirtual 71, 3) := by decide +kernel
theorem dX1_passNight_78 : decode cX1_passNight 78 = .ok (.iadd, 1) := by decide +kernel
theorem dX1_passNight_79 : decode cX1_passNight 79 = .ok (.iastore, 1) := by decide +kernel
theorem dX1_passNight_80 : decode cX1_passNight 80 = .ok (.iinc 2 1, 3) := by decide +kernel
theorem dX1_passNight_83 : decode cX1_passNight 83 = .ok (.goto (-44), 3) := by decide +kernel
theorem dX1_passNight_86 : decode cX1_passNight 86 = .ok (.aload_n 0, 1) := by decide +kernel
theorem dX1_passNight_87 : decode cX1_passNight 87 = .ok (.dup, 1) := by decide +kernel
theorem dX1_passNight_88 : decode cX1_passNight 88 = .ok (.getfield 40, 3) := by decide +kernel
theorem dX1_passNight_91 : decode cX1_passNight 91 = .ok (.iconst 1, 1) := by decide +kernel
theorem dX1_passNight_92 : decode cX1_passNight 92 = .ok (.iadd, 1) := by decide +kernel
theorem dX1_passNight_93 : decode cX1_passNight 93 = .ok (.putfield 40, 3) := by decide +kernel
theorem dX1_passNight_96 : decode cX1_passNight 96 = .ok (.return_, 1) := by decide +kernel
theorem dX1_nextWeight_0 : decode cX1_nextWeight 0 = .ok (.iload_n 1, 1) := by decide +kernel
theorem dX1_nextWeight_1 : decode cX1_nextWeight 1 = .ok (.ifCond .le 11, 3) := by decide +kernel
theorem dX1_nextWeight_4 : decode cX1_nextWeight 4 = .ok (.iconst 0, 1) := by decide +kernel
theorem dX1_nextWeight_5 : decode cX1_nextWeight 5 = .ok (.iload_n 0, 1) := by decide +kernel
theorem dX1_nextWeight_6 : decode cX1_nextWeight 6 = .ok (.iload_n 1, 1) := by decide +kernel
theorem dX1_nextWeight_7 : decode cX1_nextWeight 7 = .ok (.isub, 1) := by decide +kernel
theorem dX1_nextWeight_8 : decode cX1_nextWeight 8 = .ok (.invokestatic 82, 3) := by decide +kernel
theorem dX1_nextWeight_11 : decode cX1_nextWeight 11 = .ok (.ireturn, 1) := by decide +kernel
theorem dX1_nextWeight_12 : decode cX1_nextWeight 12 = .ok (.iload_n 0, 1) := by decide +kernel
theorem dX1_nextWeight_13 : decode cX1_nextWeight 13 = .ok (.ifCond .le 14, 3) := by decide +kernel
theorem dX1_nextWeight_16 : decode cX1_nextWeight 16 = .ok (.bipush 99, 2) := by decide +kernel
theorem dX1_nextWeight_18 : decode cX1_nextWeight 18 = .ok (.iload_n 0, 1) := by decide +kernel
theorem dX1_nextWeight_19 : decode cX1_nextWeight 19 = .ok (.iconst 1, 1) := by decide +kernel
theorem dX1_nextWeight_20 : decode cX1_nextWeight 20 = .ok (.iadd, 1) := by decide +kernel
theorem dX1_nextWeight_21 : decode cX1_nextWeight 21 = .ok (.invokestatic 66, 3) := by decide +kernel
theorem dX1_nextWeight_24 : decode cX1_nextWeight 24 = .ok (.goto 4, 3) := by decide +kernel
theorem dX1_nextWeight_27 : decode cX1_nextWeight 27 = .ok (.iconst 0, 1) := by decide +kernel
theorem dX1_nextWeight_28 : decode cX1_nextWeight 28 = .ok (.ireturn, 1) := by decide +kernel
theorem dX1_makeHeavier_0 : decode cX1_makeHeavier 0 = .ok (.aload_n 0, 1) := by decide +kernel
theorem dX1_makeHeavier_1 : decode cX1_makeHeavier 1 = .ok (.iload_n 1, 1) := by decide +kernel
theorem dX1_makeHeavier_2 : decode cX1_makeHeavier 2 = .ok (.invokevirtual 59, 3) := by decide +kernel
theorem dX1_makeHeavier_5 : decode cX1_makeHeavier 5 = .ok (.ifCond .eq 22, 3) := by decide +kernel
theorem dX1_makeHeavier_8 : decode cX1_makeHeavier 8 = .ok (.aload_n 0, 1) := by decide +kernel
theorem dX1_makeHeavier_9 : decode cX1_makeHeavier 9 = .ok (.getfield 9, 3) := by decide +kernel
theorem dX1_makeHeavier_12 : decode cX1_makeHeavier 12 = .ok (.iload_n 1, 1) := by decide +kernel
theorem dX1_makeHeavier_13 : decode cX1_makeHeavier 13 = .ok (.bipush 99, 2) := by decide +kernel
theorem dX1_makeHeavier_15 : decode cX1_makeHeavier 15 = .ok (.aload_n 0, 1) := by decide +kernel
theorem dX1_makeHeavier_16 : decode cX1_makeHeavier 16 = .ok (.getfield 9, 3) := by decide +kernel
theorem dX1_makeHeavier_19 : decode cX1_makeHeavier 19 = .ok (.iload_n 1, 1) := by decide +kernel
theorem dX1_makeHeavier_20 : decode cX1_makeHeavier 20 = .ok (.iaload, 1) := by decide +kernel
theorem dX1_makeHeavier_21 : decode cX1_makeHeavier 21 = .ok (.iload_n 2, 1) := by decide +kernel
theorem dX1_makeHeavier_22 : decode cX1_makeHeavier 22 = .ok (.iadd, 1) := by decide +kernel
theorem dX1_makeHeavier_23 : decode cX1_makeHeavier 23 = .ok (.invokestatic 66, 3) := by decide +kernel
theorem dX1_makeHeavier_26 : decode cX1_makeHeavier 26 = .ok (.iastore, 1) := by decide +kernel
theorem dX1_makeHeavier_27 : decode cX1_makeHeavier 27 = .ok (.return_, 1) := by decide +kernel
theorem dX1_resting_0 : decode cX1_resting 0 = .ok (.iconst 0, 1) := by decide +kernel
theorem dX1_resting_1 : decode cX1_resting 1 = .ok (.istore_n 1, 1) := by decide +kernel
theorem dX1_resting_2 : decode cX1_resting 2 = .ok (.iconst 0, 1) := by decide +kernel
theorem dX1_resting_3 : decode cX1_resting 3 = .ok (.istore_n 2, 1) := by decide +kernel
theorem dX1_resting_4 : decode cX1_resting 4 = .ok (.iload_n 2, 1) := by decide +kernel
theorem dX1_resting_5 : decode cX1_resting 5 = .ok (.aload_n 0, 1) := by decide +kernel
theorem dX1_resting_6 : decode cX1_resting 6 = .ok (.getfield 33, 3) := by decide +kernel
theorem dX1_resting_9 : decode cX1_resting 9 = .ok (.if_icmp .ge 28, 3) := by decide +kernel
theorem dX1_resting_12 : decode cX1_resting 12 = .ok (.aload_n 0, 1) := by decide +kernel
theorem dX1_resting_13 : decode cX1_resting 13 = .ok (.getfield 9, 3) := by decide +kernel
theorem dX1_resting_16 : decode cX1_resting 16 = .ok (.iload_n 2, 1) := by decide +kernel
theorem dX1_resting_17 : decode cX1_resting 17 = .ok (.iaload, 1) := by decide +kernel
theorem dX1_resting_18 : decode cX1_resting 18 = .ok (.aload_n 0, 1) := by decide +kernel
theorem dX1_resting_19 : decode cX1_resting 19 = .ok (.getfield 49, 3) := by decide +kernel
theorem dX1_resting_22 : decode cX1_resting 22 = .ok (.if_icmp .gt 9, 3) := by decide +kernel
theorem dX1_resting_25 : decode cX1_resting 25 = .ok (.iload_n 1, 1) := by decide +kernel
theorem dX1_resting_26 : decode cX1_resting 26 = .ok (.iconst 1, 1) := by decide +kernel
theorem dX1_resting_27 : decode cX1_resting 27 = .ok (.iload_n 2, 1) := by decide +kernel
theorem dX1_resting_28 : decode cX1_resting 28 = .ok (.ishl, 1) := by decide +kernel
theorem dX1_resting_29 : decode cX1_resting 29 = .ok (.ior, 1) := by decide +kernel
theorem dX1_resting_30 : decode cX1_resting 30 = .ok (.istore_n 1, 1) := by decide +kernel
theorem dX1_resting_31 : decode cX1_resting 31 = .ok (.iinc 2 1, 3) := by decide +kernel
theorem dX1_resting_34 : decode cX1_resting 34 = .ok (.goto (-30), 3) := by decide +kernel
theorem dX1_resting_37 : decode cX1_resting 37 = .ok (.iload_n 1, 1) := by decide +kernel
theorem dX1_resting_38 : decode cX1_resting 38 = .ok (.ireturn, 1) := by decide +kernel
theorem dX1_weightsTogether_0 : decode cX1_weightsTogether 0 = .ok (.iconst 0, 1) := by decide +kernel
theorem dX1_weightsTogether_1 : decode cX1_weightsTogether 1 = .ok (.istore_n 1, 1) := by decide +kernel
theorem dX1_weightsTogether_2 : decode cX1_weightsTogether 2 = .ok (.iconst 0, 1) := by decide +kernel
theorem dX1_weightsTogether_3 : decode cX1_weightsTogether 3 = .ok (.istore_n 2, 1) := by decide +kernel
theorem dX1_weightsTogether_4 : decode cX1_weightsTogether 4 = .ok (.iload_n 2, 1) := by decide +kernel
theorem dX1_weightsTogether_5 : decode cX1_weightsTogether 5 = .ok (.aload_n 0, 1) := by decide +kernel
theorem dX1_weightsTogether_6 : decode cX1_weightsTogether 6 = .ok (.getfield 33, 3) := by decide +kernel
theorem dX1_weightsTogether_9 : decode cX1_weightsTogether 9 = .ok (.if_icmp .ge 18, 3) := by decide +kernel
theorem dX1_weightsTogether_12 : decode cX1_weightsTogether 12 = .ok (.iload_n 1, 1) := by decide +kernel
theorem dX1_weightsTogether_13 : decode cX1_weightsTogether 13 = .ok (.aload_n 0, 1) := by decide +kernel
theorem dX1_weightsTogether_14 : decode cX1_weightsTogether 14 = .ok (.getfield 9, 3) := by decide +kernel
theorem dX1_weightsTogether_17 : decode cX1_weightsTogether 17 = .ok (.iload_n 2, 1) := by decide +kernel
theorem dX1_weightsTogether_18 : decode cX1_weightsTogether 18 = .ok (.iaload, 1) := by decide +kernel
theorem dX1_weightsTogether_19 : decode cX1_weightsTogether 19 = .ok (.iadd, 1) := by decide +kernel
theorem dX1_weightsTogether_20 : decode cX1_weightsTogether 20 = .ok (.istore_n 1, 1) := by decide +kernel
theorem dX1_weightsTogether_21 : decode cX1_weightsTogether 21 = .ok (.iinc 2 1, 3) := by decide +kernel
theorem dX1_weightsTogether_24 : decode cX1_weightsTogether 24 = .ok (.goto (-20), 3) := by decide +kernel
theorem dX1_weightsTogether_27 : decode cX1_weightsTogether 27 = .ok (.iload_n 1, 1) := by decide +kernel
theorem dX1_weightsTogether_28 : decode cX1_weightsTogether 28 = .ok (.ireturn, 1) := by decide +kernel
theorem dX1_wagesTogether_0 : decode cX1_wagesTogether 0 = .ok (.iconst 0, 1) := by decide +kernel
theorem dX1_wagesTogether_1 : decode cX1_wagesTogether 1 = .ok (.istore_n 1, 1) := by decide +kernel
theorem dX1_wagesTogether_2 : decode cX1_wagesTogether 2 = .ok (.iconst 0, 1) := by decide +kernel
theorem dX1_wagesTogether_3 : decode cX1_wagesTogether 3 = .ok (.istore_n 2, 1) := by decide +kernel
theorem dX1_wagesTogether_4 : decode cX1_wagesTogether 4 = .ok (.iload_n 2, 1) := by decide +kernel
theorem dX1_wagesTogether_5 : decode cX1_wagesTogether 5 = .ok (.aload_n 0, 1) := by decide +kernel
theorem dX1_wagesTogether_6 : decode cX1_wagesTogether 6 = .ok (.getfield 37, 3) := by decide +kernel
theorem dX1_wagesTogether_9 : decode cX1_wagesTogether 9 = .ok (.if_icmp .ge 18, 3) := by decide +kernel
theorem dX1_wagesTogether_12 : decode cX1_wagesTogether 12 = .ok (.iload_n 1, 1) := by decide +kernel
theorem dX1_wagesTogether_13 : decode cX1_wagesTogether 13 = .ok (.aload_n 0, 1) := by decide +kernel
theorem dX1_wagesTogether_14 : decode cX1_wagesTogether 14 = .ok (.getfield 30, 3) := by decide +kernel
theorem dX1_wagesTogether_17 : decode cX1_wagesTogether 17 = .ok (.iload_n 2, 1) := by decide +kernel
theorem dX1_wagesTogether_18 : decode cX1_wagesTogether 18 = .ok (.iaload, 1) := by decide +kernel
theorem dX1_wagesTogether_19 : decode cX1_wagesTogether 19 = .ok (.iadd, 1) := by decide +kernel
theorem dX1_wagesTogether_20 : decode cX1_wagesTogether 20 = .ok (.istore_n 1, 1) := by decide +kernel
theorem dX1_wagesTogether_21 : decode cX1_wagesTogether 21 = .ok (.iinc 2 1, 3) := by decide +kernel
theorem dX1_wagesTogether_24 : decode cX1_wagesTogether 24 = .ok (.goto (-20), 3) := by decide +kernel
theorem dX1_wagesTogether_27 : decode cX1_wagesTogether 27 = .ok (.iload_n 1, 1) := by decide +kernel
theorem dX1_wagesTogether_28 : decode cX1_wagesTogether 28 = .ok (.ireturn, 1) := by decide +kernel
theorem dX2_init_0 : decode cX2_init 0 = .ok (.aload_n 0, 1) := by decide +kernel
theorem dX2_init_1 : decode cX2_init 1 = .ok (.invokespecial 3, 3) := by decide +kernel
theorem dX2_init_4 : decode cX2_init 4 = .ok (.aload_n 0, 1) := by decide +kernel
theorem dX2_init_5 : decode cX2_init 5 = .ok (.bipush 16, 2) := by decide +kernel
theorem dX2_init_7 : decode cX2_init 7 = .ok (.newarray .int, 2) := by decide +kernel
theorem dX2_init_9 : decode cX2_init 9 = .ok (.putfield 11, 3) := by decide +kernel
theorem dX2_init_12 : decode cX2_init 12 = .ok (.return_, 1) := by decide +kernel
theorem dX2_begin_0 : decode cX2_begin 0 = .ok (.aload_n 0, 1) := by decide +kernel
theorem dX2_begin_1 : decode cX2_begin 1 = .ok (.iconst 0, 1) := by decide +kernel
theorem dX2_begin_2 : decode cX2_begin 2 = .ok (.putfield 15, 3) := by decide +kernel
theorem dX2_begin_5 : decode cX2_begin 5 = .ok (.aload_n 0, 1) := by decide +kernel
theorem dX2_begin_6 : decode cX2_begin 6 = .ok (.aload_n 1, 1) := by decide +kernel
theorem dX2_begin_7 : decode cX2_begin 7 = .ok (.iload_n 2, 1) := by decide +kernel
theorem dX2_begin_8 : decode cX2_begin 8 = .ok (.iload_n 3, 1) := by decide +kernel
theorem dX2_begin_9 : decode cX2_begin 9 = .ok (.iconst 0, 1) := by decide +kernel
theorem dX2_begin_10 : decode cX2_begin 10 = .ok (.invokevirtual 19, 3) := by decide +kernel
theorem dX2_begin_13 : decode cX2_begin 13 = .ok (.ireturn, 1) := by decide +kernel
theorem dX2_isOfKind_0 : decode cX2_isOfKind 0 = .ok (.iload_n 0, 1) := by decide +kernel
theorem dX2_isOfKind_1 : decode cX2_isOfKind 1 = .ok (.istore_n 2, 1) := by decide +kernel
theorem dX2_isOfKind_2 : decode cX2_isOfKind 2 = .ok (.iconst 0, 1) := by decide +kernel
theorem dX2_isOfKind_3 : decode cX2_isOfKind 3 = .ok (.istore_n 3, 1) := by decide +kernel
theorem dX2_isOfKind_4 : decode cX2_isOfKind 4 = .ok (.iload_n 3, 1) := by decide +kernel
theorem dX2_isOfKind_5 : decode cX2_isOfKind 5 = .ok (.iconst 5, 1) := by decide +kernel
theorem dX2_isOfKind_6 : decode cX2_isOfKind 6 = .ok (.if_icmp .ge 23, 3) := by decide +kernel
theorem dX2_isOfKind_9 : decode cX2_isOfKind 9 = .ok (.iload_n 2, 1) := by decide +kernel
theorem dX2_isOfKind_10 : decode cX2_isOfKind 10 = .ok (.ifCond .le 19, 3) := by decide +kernel
theorem dX2_isOfKind_13 : decode cX2_isOfKind 13 = .ok (.iload_n 2, 1) := by decide +kernel
theorem dX2_isOfKind_14 : decode cX2_isOfKind 14 = .ok (.iload_n 1, 1) := by decide +kernel
theorem dX2_isOfKind_15 : decode cX2_isOfKind 15 = .ok (.if_icmp .eq 14, 3) := by decide +kernel
theorem dX2_isOfKind_18 : decode cX2_isOfKind 18 = .ok (.iload_n 2, 1) := by decide +kernel
theorem dX2_isOfKind_19 : decode cX2_isOfKind 19 = .ok (.invokestatic 23, 3) := by decide +kernel
theorem dX2_isOfKind_22 : decode cX2_isOfKind 22 = .ok (.istore_n 2, 1) := by decide +kernel
theorem dX2_isOfKind_23 : decode cX2_isOfKind 23 = .ok (.iinc 3 1, 3) := by decide +kernel
theorem dX2_isOfKind_26 : decode cX2_isOfKind 26 = .ok (.goto (-22), 3) := by decide +kernel
theorem dX2_isOfKind_29 : decode cX2_isOfKind 29 = .ok (.iload_n 2, 1) := by decide +kernel
theorem dX2_isOfKind_30 : decode cX2_isOfKind 30 = .ok (.iload_n 1, 1) := by decide +kernel
theorem dX2_isOfKind_31 : decode cX2_isOfKind 31 = .ok (.if_icmp .ne 7, 3) := by decide +kernel
theorem dX2_isOfKind_34 : decode cX2_isOfKind 34 = .ok (.iconst 1, 1) := by decide +kernel
theorem dX2_isOfKind_35 : decode cX2_isOfKind 35 = .ok (.goto 4, 3) := by decide +kernel
theorem dX2_isOfKind_38 : decode cX2_isOfKind 38 = .ok (.iconst 0, 1) := by decide +kernel
theorem dX2_isOfKind_39 : decode cX2_isOfKind 39 = .ok (.ireturn, 1) := by decide +kernel
theorem dX2_parentOf_0 : decode cX2_parentOf 0 = .ok (.iload_n 0, 1) := by decide +kernel
theorem dX2_parentOf_1 : decode cX2_parentOf 1 = .ok (.ifCond .lt 19, 3) := by decide +kernel
theorem dX2_parentOf_4 : decode cX2_parentOf 4 = .ok (.iload_n 0, 1) := by decide +kernel
theorem dX2_parentOf_5 : decode cX2_parentOf 5 = .ok (.getstatic 27, 3) := by decide +kernel
theorem dX2_parentOf_8 : decode cX2_parentOf 8 = .ok (.arraylength, 1) := by decide +kernel
theorem dX2_parentOf_9 : decode cX2_parentOf 9 = .ok (.if_icmp .ge 11, 3) := by decide +kernel
theorem dX2_parentOf_12 : decode cX2_parentOf 12 = .ok (.getstatic 27, 3) := by decide +kernel
theorem dX2_parentOf_15 : decode cX2_parentOf 15 = .ok (.iload_n 0, 1) := by decide +kernel
theorem dX2_parentOf_16 : decode cX2_parentOf 16 = .ok (.iaload, 1) := by decide +kernel
theorem dX2_parentOf_17 : decode cX2_parentOf 17 = .ok (.goto 4, 3) := by decide +kernel
theorem dX2_parentOf_20 : decode cX2_parentOf 20 = .ok (.iconst 0, 1) := by decide +kernel
theorem dX2_parentOf_21 : decode cX2_parentOf 21 = .ok (.ireturn, 1) := by decide +kernel
theorem dX2_askAnew_0 : decode cX2_askAnew 0 = .ok (.aload_n 1, 1) := by decide +kernel
theorem dX2_askAnew_1 : decode cX2_askAnew 1 = .ok (.iload_n 2, 1) := by decide +kernel
theorem dX2_askAnew_2 : decode cX2_askAnew 2 = .ok (.invokevirtual 30, 3) := by decide +kernel
theorem dX2_askAnew_5 : decode cX2_askAnew 5 = .ok (.ifCond .ne 5, 3) := by decide +kernel
theorem dX2_askAnew_8 : decode cX2_askAnew 8 = .ok (.iconst 0, 1) := by decide +kernel
theorem dX2_askAnew_9 : decode cX2_askAnew 9 = .ok (.ireturn, 1) := by decide +kernel
theorem dX2_askAnew_10 : decode cX2_askAnew 10 = .ok (.aload_n 0, 1) := by decide +kernel
theorem dX2_askAnew_11 : decode cX2_askAnew 11 = .ok (.aload_n 1, 1) := by decide +kernel
theorem dX2_askAnew_12 : decode cX2_askAnew 12 = .ok (.iload_n 2, 1) := by decide +kernel
theorem dX2_askAnew_13 : decode cX2_askAnew 13 = .ok (.aload_n 1, 1) := by decide +kernel
theorem dX2_askAnew_14 : decode cX2_askAnew 14 = .ok (.getfield 36, 3) := by decide +kernel
theorem dX2_askAnew_17 : decode cX2_askAnew 17 = .ok (.iload_n 2, 1) := by decide +kernel
theorem dX2_askAnew_18 : decode cX2_askAnew 18 = .ok (.iaload, 1) := by decide +kernel
theorem dX2_askAnew_19 : decode cX2_askAnew 19 = .ok (.iload_n 3, 1) := by decide +kernel
theorem dX2_askAnew_20 : decode cX2_askAnew 20 = .ok (.invokestatic 39, 3) := by decide +kernel
theorem dX2_askAnew_23 : decode cX2_askAnew 23 = .ok (.iload 4, 2) := by decide +kernel
theorem dX2_askAnew_25 : decode cX2_askAnew 25 = .ok (.iconst 1, 1) := by decide +kernel
theorem dX2_askAnew_26 : decode cX2_askAnew 26 = .ok (.iadd, 1) := by decide +kernel
theorem dX2_askAnew_27 : decode cX2_askAnew 27 = .ok (.invokevirtual 43, 3) := by decide +kernel
theorem dX2_askAnew_30 : decode cX2_askAnew 30 = .ok (.ireturn, 1) := by decide +kernel
theorem dX2_bodyFor_0 : decode cX2_bodyFor 0 = .ok (.iload_n 0, 1) := by decide +kernel
theorem dX2_bodyFor_1 : decode cX2_bodyFor 1 = .ok (.istore_n 2, 1) := by decide +kernel
theorem dX2_bodyFor_2 : decode cX2_bodyFor 2 = .ok (.iconst 0, 1) := by decide +kernel
theorem dX2_bodyFor_3 : decode cX2_bodyFor 3 = .ok (.istore_n 3, 1) := by decide +kernel
theorem dX2_bodyFor_4 : decode cX2_bodyFor 4 = .ok (.iload_n 3, 1) := by decide +kernel
theorem dX2_bodyFor_5 : decode cX2_bodyFor 5 = .ok (.iconst 5, 1) := by decide +kernel
theorem dX2_bodyFor_6 : decode cX2_bodyFor 6 = .ok (.if_icmp .ge 26, 3) := by decide +kernel
theorem dX2_bodyFor_9 : decode cX2_bodyFor 9 = .ok (.iload_n 2, 1) := by decide +kernel
theorem dX2_bodyFor_10 : decode cX2_bodyFor 10 = .ok (.ifCond .le 22, 3) := by decide +kernel
theorem dX2_bodyFor_13 : decode cX2_bodyFor 13 = .ok (.iload_n 2, 1) := by decide +kernel
theorem dX2_bodyFor_14 : decode cX2_bodyFor 14 = .ok (.iload_n 1, 1) := by decide +kernel
theorem dX2_bodyFor_15 : decode cX2_bodyFor 15 = .ok (.invokestatic 46, 3) := by decide +kernel
theorem dX2_bodyFor_18 : decode cX2_bodyFor 18 = .ok (.ifCond .ne 14, 3) := by decide +kernel
theorem dX2_bodyFor_21 : decode cX2_bodyFor 21 = .ok (.iload_n 2, 1) := by decide +kernel
theorem dX2_bodyFor_22 : decode cX2_bodyFor 22 = .ok (.invokestatic 23, 3) := by decide +kernel
theorem dX2_bodyFor_25 : decode cX2_bodyFor 25 = .ok (.istore_n 2, 1) := by decide +kernel
theorem dX2_bodyFor_26 : decode cX2_bodyFor 26 = .ok (.iinc 3 1, 3) := by decide +kernel
theorem dX2_bodyFor_29 : decode cX2_bodyFor 29 = .ok (.goto (-25), 3) := by decide +kernel
theorem dX2_bodyFor_32 : decode cX2_bodyFor 32 = .ok (.iload_n 2, 1) := by decide +kernel
theorem dX2_bodyFor_33 : decode cX2_bodyFor 33 = .ok (.iload_n 1, 1) := by decide +kernel
theorem dX2_bodyFor_34 : decode cX2_bodyFor 34 = .ok (.invokestatic 46, 3) := by decide +kernel
theorem dX2_bodyFor_37 : decode cX2_bodyFor 37 = .ok (.ireturn, 1) := by decide +kernel
theorem dX2_ownBody_0 : decode cX2_ownBody 0 = .ok (.iload_n 1, 1) := by decide +kernel
theorem dX2_ownBody_1 : decode cX2_ownBody 1 = .ok (.ifCond .ne 9, 3) := by decide +kernel
theorem dX2_ownBody_4 : decode cX2_ownBody 4 = .ok (.getstatic 49, 3) := by decide +kernel
theorem dX2_ownBody_7 : decode cX2_ownBody 7 = .ok (.goto 6, 3) := by decide +kernel
theorem dX2_ownBody_10 : decode cX2_ownBody 10 = .ok (.getstatic 52, 3) := by decide +kernel
theorem dX2_ownBody_13 : decode cX2_ownBody 13 = .ok (.astore_n 2, 1) := by decide +kernel
theorem dX2_ownBody_14 : decode cX2_ownBody 14 = .ok (.iload_n 0, 1) := by decide +kernel
theorem dX2_ownBody_15 : decode cX2_ownBody 15 = .ok (.ifCond .lt 15, 3) := by decide +kernel
theorem dX2_ownBody_18 : decode cX2_ownBody 18 = .ok (.iload_n 0, 1) := by decide +kernel
theorem dX2_ownBody_19 : decode cX2_ownBody 19 = .ok (.aload_n 2, 1) := by decide +kernel
theorem dX2_ownBody_20 : decode cX2_ownBody 20 = .ok (.arraylength, 1) := by decide +kernel
theorem dX2_ownBody_21 : decode cX2_ownBody 21 = .ok (.if_icmp .ge 9, 3) := by decide +kernel
theorem dX2_ownBody_24 : decode cX2_ownBody 24 = .ok (.aload_n 2, 1) := by decide +kernel
theorem dX2_ownBody_25 : decode cX2_ownBody 25 = .ok (.iload_n 0, 1) := by decide +kernel
theorem dX2_ownBody_26 : decode cX2_ownBody 26 = .ok (.iaload, 1) := by decide +kernel
theorem dX2_ownBody_27 : decode cX2_ownBody 27 = .ok (.goto 4, 3) := by decide +kernel
theorem dX2_ownBody_30 : decode cX2_ownBody 30 = .ok (.iconst 0, 1) := by decide +kernel
theorem dX2_ownBody_31 : decode cX2_ownBody 31 = .ok (.ireturn, 1) := by decide +kernel
theorem dX2_runBody_0 : decode cX2_runBody 0 = .ok (.iload 4, 2) := by decide +kernel
theorem dX2_runBody_2 : decode cX2_runBody 2 = .ok (.bipush 16, 2) := by decide +kernel
theorem dX2_runBody_4 : decode cX2_runBody 4 = .ok (.if_icmp .gt 11, 3) := by decide +kernel
theorem dX2_runBody_7 : decode cX2_runBody 7 = .ok (.aload_n 1, 1) := by decide +kernel
theorem dX2_runBody_8 : decode cX2_runBody 8 = .ok (.iload_n 2, 1) := by decide +kernel
theorem dX2_runBody_9 : decode cX2_runBody 9 = .ok (.invokevirtual 30, 3) := by decide +kernel
theorem dX2_runBody_12 : decode cX2_runBody 12 = .ok (.ifCond .ne 5, 3) := by decide +kernel
theorem dX2_runBody_15 : decode cX2_runBody 15 = .ok (.iconst 0, 1) := by decide +kernel
theorem dX2_runBody_16 : decode cX2_runBody 16 = .ok (.ireturn, 1) := by decide +kernel
theorem dX2_runBody_17 : decode cX2_runBody 17 = .ok (.aload_n 0, 1) := by decide +kernel
theorem dX2_runBody_18 : decode cX2_runBody 18 = .ok (.iload_n 3, 1) := by decide +kernel
theorem dX2_runBody_19 : decode cX2_runBody 19 = .ok (.invokevirtual 55, 3) := by decide +kernel
theorem dX2_runBody_22 : decode cX2_runBody 22 = .ok (.iload 4, 2) := by decide +kernel
theorem dX2_runBody_24 : decode cX2_runBody 24 = .ok (.iconst 1, 1) := by decide +kernel
theorem dX2_runBody_25 : decode cX2_runBody 25 = .ok (.iadd, 1) := by decide +kernel
theorem dX2_runBody_26 : decode cX2_runBody 26 = .ok (.istore 5, 2) := by decide +kernel
theorem dX2_runBody_28 : decode cX2_runBody 28 = .ok (.iload_n 3, 1) := by decide +kernel
theorem dX2_runBody_29 : decode cX2_runBody 29 = .ok (.tableswitch 211 10 24 #[75, 82, 103, 115, 129, 211, 211, 211, 211, 211, 142, 144, 162, 177, 198], 75) := by decide +kernel
theorem dX2_runBody_104 : decode cX2_runBody 104 = .ok (.aload_n 1, 1) := by decide +kernel
theorem dX2_runBody_105 : decode cX2_runBody 105 = .ok (.getfield 59, 3) := by decide +kernel
theorem dX2_runBody_108 : decode cX2_runBody 108 = .ok (.iload_n 2, 1) := by decide +kernel
theorem dX2_runBody_109 : decode cX2_runBody 109 = .ok (.iaload, 1) := by decide +kernel
theorem dX2_runBody_110 : decode cX2_runBody 110 = .ok (.ireturn, 1) := by decide +kernel
theorem dX2_runBody_111 : decode cX2_runBody 111 = .ok (.aload_n 0, 1) := by decide +kernel
theorem dX2_runBody_112 : decode cX2_runBody 112 = .ok (.aload_n 1, 1) := by decide +kernel
theorem dX2_runBody_113 : decode cX2_runBody 113 = .ok (.iload_n 2, 1) := by decide +kernel
theorem dX2_runBody_114 : decode cX2_runBody 114 = .ok (.bipush 10, 2) := by decide +kernel
theorem dX2_runBody_116 : decode cX2_runBody 116 = .ok (.iload 5, 2) := by decide +kernel
theorem dX2_runBody_118 : decode cX2_runBody 118 = .ok (.invokevirtual 43, 3) := by decide +kernel
theorem dX2_runBody_121 : decode cX2_runBody 121 = .ok (.aload_n 0, 1) := by decide +kernel
theorem dX2_runBody_122 : decode cX2_runBody 122 = .ok (.aload_n 1, 1) := by decide +kernel
theorem dX2_runBody_123 : decode cX2_runBody 123 = .ok (.iload_n 2, 1) := by decide +kernel
theorem dX2_runBody_124 : decode cX2_runBody 124 = .ok (.iconst 1, 1) := by decide +kernel
theorem dX2_runBody_125 : decode cX2_runBody 125 = .ok (.iload 5, 2) := by decide +kernel
theorem dX2_runBody_127 : decode cX2_runBody 127 = .ok (.invokevirtual 19, 3) := by decide +kernel
theorem dX2_runBody_130 : decode cX2_runBody 130 = .ok (.iadd, 1) := by decide +kernel
theorem dX2_runBody_131 : decode cX2_runBody 131 = .ok (.ireturn, 1) := by decide +kernel
theorem dX2_runBody_132 : decode cX2_runBody 132 = .ok (.aload_n 0, 1) := by decide +kernel
theorem dX2_runBody_133 : decode cX2_runBody 133 = .ok (.aload_n 1, 1) := by decide +kernel
theorem dX2_runBody_134 : decode cX2_runBody 134 = .ok (.iload_n 2, 1) := by decide +kernel
theorem dX2_runBody_135 : decode cX2_runBody 135 = .ok (.bipush 11, 2) := by decide +kernel
theorem dX2_runBody_137 : decode cX2_runBody 137 = .ok (.iload 5, 2) := by decide +kernel
theorem dX2_runBody_139 : decode cX2_runBody 139 = .ok (.invokevirtual 43, 3) := by decide +kernel
theorem dX2_runBody_142 : decode cX2_runBody 142 = .ok (.ineg, 1) := by decide +kernel
theorem dX2_runBody_143 : decode cX2_runBody 143 = .ok (.ireturn, 1) := by decide +kernel
theorem dX2_runBody_144 : decode cX2_runBody 144 = .ok (.aload_n 0, 1) := by decide +kernel
theorem dX2_runBody_145 : decode cX2_runBody 145 = .ok (.aload_n 1, 1) := by decide +kernel
theorem dX2_runBody_146 : decode cX2_runBody 146 = .ok (.iload_n 2, 1) := by decide +kernel
theorem dX2_runBody_147 : decode cX2_runBody 147 = .ok (.bipush 10, 2) := by decide +kernel
theorem dX2_runBody_149 : decode cX2_runBody 149 = .ok (.iload 5, 2) := by decide +kernel
theorem dX2_runBody_151 : decode cX2_runBody 151 = .ok (.invokevirtual 43, 3) := by decide +kernel
theorem dX2_runBody_154 : decode cX2_runBody 154 = .ok (.bipush 100, 2) := by decide +kernel
theorem dX2_runBody_156 : decode cX2_runBody 156 = .ok (.isub, 1) := by decide +kernel
theorem dX2_runBody_157 : decode cX2_runBody 157 = .ok (.ireturn, 1) := by decide +kernel
theorem dX2_runBody_158 : decode cX2_runBody 158 = .ok (.iconst 2, 1) := by decide +kernel
theorem dX2_runBody_159 : decode cX2_runBody 159 = .ok (.aload_n 0, 1) := by decide +kernel
theorem dX2_runBody_160 : decode cX2_runBody 160 = .ok (.aload_n 1, 1) := by decide +kernel
theorem dX2_runBody_161 : decode cX2_runBody 161 = .ok (.iload_n 2, 1) := by decide +kernel
theorem dX2_runBody_162 : decode cX2_runBody 162 = .ok (.bipush 13, 2) := by decide +kernel
theorem dX2_runBody_164 : decode cX2_runBody 164 = .ok (.iload 5, 2) := by decide +kernel
theorem dX2_runBody_166 : decode cX2_runBody 166 = .ok (.invokevirtual 43, 3) := by decide +kernel
theorem dX2_runBody_169 : decode cX2_runBody 169 = .ok (.imul, 1) := by decide +kernel
theorem dX2_runBody_170 : decode cX2_runBody 170 = .ok (.ireturn, 1) := by decide +kernel
theorem dX2_runBody_171 : decode cX2_runBody 171 = .ok (.iload_n 2, 1) := by decide +kernel
theorem dX2_runBody_172 : decode cX2_runBody 172 = .ok (.ireturn, 1) := by decide +kernel
theorem dX2_runBody_173 : decode cX2_runBody 173 = .ok (.aload_n 0, 1) := by decide +kernel
theorem dX2_runBody_174 : decode cX2_runBody 174 = .ok (.aload_n 1, 1) := by decide +kernel
theorem dX2_runBody_175 : decode cX2_runBody 175 = .ok (.iload_n 2, 1) := by decide +kernel
theorem dX2_runBody_176 : decode cX2_runBody 176 = .ok (.bipush 20, 2) := by decide +kernel
theorem dX2_runBody_178 : decode cX2_runBody 178 = .ok (.iload 5, 2) := by decide +kernel
theorem dX2_runBody_180 : decode cX2_runBody 180 = .ok (.invokevirtual 43, 3) := by decide +kernel
theorem dX2_runBody_183 : decode cX2_runBody 183 = .ok (.aload_n 1, 1) := by decide +kernel
theorem dX2_runBody_184 : decode cX2_runBody 184 = .ok (.getfield 62, 3) := by decide +kernel
theorem dX2_runBody_187 : decode cX2_runBody 187 = .ok (.iload_n 2, 1) := by decide +kernel
theorem dX2_runBody_188 : decode cX2_runBody 188 = .ok (.iaload, 1) := by decide +kernel
theorem dX2_runBody_189 : decode cX2_runBody 189 = .ok (.iadd, 1) := by decide +kernel
theorem dX2_runBody_190 : decode cX2_runBody 190 = .ok (.ireturn, 1) := by decide +kernel
theorem dX2_runBody_191 : decode cX2_runBody 191 = .ok (.aload_n 0, 1) := by decide +kernel
theorem dX2_runBody_192 : decode cX2_runBody 192 = .ok (.aload_n 1, 1) := by decide +kernel
theorem dX2_runBody_193 : decode cX2_runBody 193 = .ok (.iload_n 2, 1) := by decide +kernel
theorem dX2_runBody_194 : decode cX2_runBody 194 = .ok (.bipush 21, 2) := by decide +kernel
theorem dX2_runBody_196 : decode cX2_runBody 196 = .ok (.iload 5, 2) := by decide +kernel
theorem dX2_runBody_198 : decode cX2_runBody 198 = .ok (.invokevirtual 43, 3) := by decide +kernel
theorem dX2_runBody_201 : decode cX2_runBody 201 = .ok (.sipush 1000, 3) := by decide +kernel
theorem dX2_runBody_204 : decode cX2_runBody 204 = .ok (.isub, 1) := by decide +kernel
theorem dX2_runBody_205 : decode cX2_runBody 205 = .ok (.ireturn, 1) := by decide +kernel
theorem dX2_runBody_206 : decode cX2_runBody 206 = .ok (.aload_n 0, 1) := by decide +kernel
theorem dX2_runBody_207 : decode cX2_runBody 207 = .ok (.aload_n 1, 1) := by decide +kernel
theorem dX2_runBody_208 : decode cX2_runBody 208 = .ok (.iload_n 2, 1) := by decide +kernel
theorem dX2_runBody_209 : decode cX2_runBody 209 = .ok (.bipush 20, 2) := by decide +kernel
theorem dX2_runBody_211 : decode cX2_runBody 211 = .ok (.iload 5, 2) := by decide +kernel
theorem dX2_runBody_213 : decode cX2_runBody 213 = .ok (.invokevirtual 43, 3) := by decide +kernel
theorem dX2_runBody_216 : decode cX2_runBody 216 = .ok (.aload_n 0, 1) := by decide +kernel
theorem dX2_runBody_217 : decode cX2_runBody 217 = .ok (.aload_n 1, 1) := by decide +kernel
theorem dX2_runBody_218 : decode cX2_runBody 218 = .ok (.iload_n 2, 1) := by decide +kernel
theorem dX2_runBody_219 : decode cX2_runBody 219 = .ok (.iconst 0, 1) := by decide +kernel
theorem dX2_runBody_220 : decode cX2_runBody 220 = .ok (.iload 5, 2) := by decide +kernel
theorem dX2_runBody_222 : decode cX2_runBody 222 = .ok (.invokevirtual 19, 3) := by decide +kernel
theorem dX2_runBody_225 : decode cX2_runBody 225 = .ok (.isub, 1) := by decide +kernel
theorem dX2_runBody_226 : decode cX2_runBody 226 = .ok (.ireturn, 1) := by decide +kernel
theorem dX2_runBody_227 : decode cX2_runBody 227 = .ok (.iconst 2, 1) := by decide +kernel
theorem dX2_runBody_228 : decode cX2_runBody 228 = .ok (.aload_n 0, 1) := by decide +kernel
theorem dX2_runBody_229 : decode cX2_runBody 229 = .ok (.aload_n 1, 1) := by decide +kernel
theorem dX2_runBody_230 : decode cX2_runBody 230 = .ok (.iload_n 2, 1) := by decide +kernel
theorem dX2_runBody_231 : decode cX2_runBody 231 = .ok (.bipush 21, 2) := by decide +kernel
theorem dX2_runBody_233 : decode cX2_runBody 233 = .ok (.iload 5, 2) := by decide +kernel
theorem dX2_runBody_235 : decode cX2_runBody 235 = .ok (.invokevirtual 43, 3) := by decide +kernel
theorem dX2_runBody_238 : decode cX2_runBody 238 = .ok (.imul, 1) := by decide +kernel
theorem dX2_runBody_239 : decode cX2_runBody 239 = .ok (.ireturn, 1) := by decide +kernel
theorem dX2_runBody_240 : decode cX2_runBody 240 = .ok (.iconst 0, 1) := by decide +kernel
theorem dX2_runBody_241 : decode cX2_runBody 241 = .ok (.ireturn, 1) := by decide +kernel
theorem dX2_leave_0 : decode cX2_leave 0 = .ok (.aload_n 0, 1) := by decide +kernel
theorem dX2_leave_1 : decode cX2_leave 1 = .ok (.getfield 15, 3) := by decide +kernel
theorem dX2_leave_4 : decode cX2_leave 4 = .ok (.bipush 16, 2) := by decide +kernel
theorem dX2_leave_6 : decode cX2_leave 6 = .ok (.if_icmp .ge 23, 3) := by decide +kernel
theorem dX2_leave_9 : decode cX2_leave 9 = .ok (.aload_n 0, 1) := by decide +kernel
theorem dX2_leave_10 : decode cX2_leave 10 = .ok (.getfield 11, 3) := by decide +kernel
theorem dX2_leave_13 : decode cX2_leave 13 = .ok (.aload_n 0, 1) := by decide +kernel
theorem dX2_leave_14 : decode cX2_leave 14 = .ok (.getfield 15, 3) := by decide +kernel
theorem dX2_leave_17 : decode cX2_leave 17 = .ok (.iload_n 1, 1) := by decide +kernel
theorem dX2_leave_18 : decode cX2_leave 18 = .ok (.iastore, 1) := by decide +kernel
theorem dX2_leave_19 : decode cX2_leave 19 = .ok (.aload_n 0, 1) := by decide +kernel
theorem dX2_leave_20 : decode cX2_leave 20 = .ok (.dup, 1) := by decide +kernel
theorem dX2_leave_21 : decode cX2_leave 21 = .ok (.getfield 15, 3) := by decide +kernel
theorem dX2_leave_24 : decode cX2_leave 24 = .ok (.iconst 1, 1) := by decide +kernel
theorem dX2_leave_25 : decode cX2_leave 25 = .ok (.iadd, 1) := by decide +kernel
theorem dX2_leave_26 : decode cX2_leave 26 = .ok (.putfield 15, 3) := by decide +kernel
theorem dX2_leave_29 : decode cX2_leave 29 = .ok (.return_, 1) := by decide +kernel
theorem dX3_init_0 : decode cX3_init 0 = .ok (.aload_n 0, 1) := by decide +kernel
theorem dX3_init_1 : decode cX3_init 1 = .ok (.invokespecial 3, 3) := by decide +kernel
theorem dX3_init_4 : decode cX3_init 4 = .ok (.aload_n 0, 1) := by decide +kernel
theorem dX3_init_5 : decode cX3_init 5 = .ok (.bipush 40, 2) := by decide +kernel
theorem dX3_init_7 : decode cX3_init 7 = .ok (.newarray .int, 2) := by decide +kernel
theorem dX3_init_9 : decode cX3_init 9 = .ok (.putfield 9, 3) := by decide +kernel
theorem dX3_init_12 : decode cX3_init 12 = .ok (.aload_n 0, 1) := by decide +kernel
theorem dX3_init_13 : decode cX3_init 13 = .ok (.iconst (-1), 1) := by decide +kernel
theorem dX3_init_14 : decode cX3_init 14 = .ok (.putfield 15, 3) := by decide +kernel
theorem dX3_init_17 : decode cX3_init 17 = .ok (.return_, 1) := by decide +kernel
theorem dX3_isMissing_0 : decode cX3_isMissing 0 = .ok (.aload_n 0, 1) := by decide +kernel
theorem dX3_isMissing_1 : decode cX3_isMissing 1 = .ok (.getfield 15, 3) := by decide +kernel
theorem dX3_isMissing_4 : decode cX3_isMissing 4 = .ok (.ifCond .ge 7, 3) := by decide +kernel
theorem dX3_isMissing_7 : decode cX3_isMissing 7 = .ok (.iconst 1, 1) := by decide +kernel
theorem dX3_isMissing_8 : decode cX3_isMissing 8 = .ok (.goto 4, 3) := by decide +kernel
theorem dX3_isMissing_11 : decode cX3_isMissing 11 = .ok (.iconst 0, 1) := by decide +kernel
theorem dX3_isMissing_12 : decode cX3_isMissing 12 = .ok (.ireturn, 1) := by decide +kernel
theorem dX3_holds_0 : decode cX3_holds 0 = .ok (.iload_n 1, 1) := by decide +kernel
theorem dX3_holds_1 : decode cX3_holds 1 = .ok (.ifCond .lt 29, 3) := by decide +kernel
theorem dX3_holds_4 : decode cX3_holds 4 = .ok (.iload_n 2, 1) := by decide +kernel
theorem dX3_holds_5 : decode cX3_holds 5 = .ok (.ifCond .lt 25, 3) := by decide +kernel
theorem dX3_holds_8 : decode cX3_holds 8 = .ok (.iload_n 2, 1) := by decide +kernel
theorem dX3_holds_9 : decode cX3_holds 9 = .ok (.aload_n 0, 1) := by decide +kernel
theorem dX3_holds_10 : decode cX3_holds 10 = .ok (.getfield 15, 3) := by decide +kernel
theorem dX3_holds_13 : decode cX3_holds 13 = .ok (.if_icmp .gt 17, 3) := by decide +kernel
theorem dX3_holds_16 : decode cX3_holds 16 = .ok (.iload_n 1, 1) := by decide +kernel
theorem dX3_holds_17 : decode cX3_holds 17 = .ok (.aload_n 0, 1) := by decide +kernel
theorem dX3_holds_18 : decode cX3_holds 18 = .ok (.getfield 15, 3) := by decide +kernel
theorem dX3_holds_21 : decode cX3_holds 21 = .ok (.iload_n 2, 1) := by decide +kernel
theorem dX3_holds_22 : decode cX3_holds 22 = .ok (.isub, 1) := by decide +kernel
theorem dX3_holds_23 : decode cX3_holds 23 = .ok (.if_icmp .gt 7, 3) := by decide +kernel
theorem dX3_holds_26 : decode cX3_holds 26 = .ok (.iconst 1, 1) := by decide +kernel
theorem dX3_holds_27 : decode cX3_holds 27 = .ok (.goto 4, 3) := by decide +kernel
theorem dX3_holds_30 : decode cX3_holds 30 = .ok (.iconst 0, 1) := by decide +kernel
theorem dX3_holds_31 : decode cX3_holds 31 = .ok (.ireturn, 1) := by decide +kernel
theorem dX3_make_0 : decode cX3_make 0 = .ok (.aload_n 0, 1) := by decide +kernel
theorem dX3_make_1 : decode cX3_make 1 = .ok (.iload_n 1, 1) := by decide +kernel
theorem dX3_make_2 : decode cX3_make 2 = .ok (.putfield 19, 3) := by decide +kernel
theorem dX3_make_5 : decode cX3_make 5 = .ok (.aload_n 0, 1) := by decide +kernel
theorem dX3_make_6 : decode cX3_make 6 = .ok (.iload_n 2, 1) := by decide +kernel
theorem dX3_make_7 : decode cX3_make 7 = .ok (.putfield 15, 3) := by decide +kernel
theorem dX3_make_10 : decode cX3_make 10 = .ok (.iconst 0, 1) := by decide +kernel
theorem dX3_make_11 : decode cX3_make 11 = .ok (.istore_n 3, 1) := by decide +kernel
theorem dX3_make_12 : decode cX3_make 12 = .ok (.iload_n 3, 1) := by decide +kernel
theorem dX3_make_13 : decode cX3_make 13 = .ok (.bipush 40, 2) := by decide +kernel
theorem dX3_make_15 : decode cX3_make 15 = .ok (.if_icmp .ge 16, 3) := by decide +kernel
theorem dX3_make_18 : decode cX3_make 18 = .ok (.aload_n 0, 1) := by decide +kernel
theorem dX3_make_19 : decode cX3_make 19 = .ok (.getfield 9, 3) := by decide +kernel
theorem dX3_make_22 : decode cX3_make 22 = .ok (.iload_n 3, 1) := by decide +kernel
theorem dX3_make_23 : decode cX3_make 23 = .ok (.iconst 0, 1) := by decide +kernel
theorem dX3_make_24 : decode cX3_make 24 = .ok (.iastore, 1) := by decide +kernel
theorem dX3_make_25 : decode cX3_make 25 = .ok (.iinc 3 1, 3) := by decide +kernel
theorem dX3_make_28 : decode cX3_make 28 = .ok (.goto (-16), 3) := by decide +kernel
theorem dX3_make_31 : decode cX3_make 31 = .ok (.return_, 1) := by decide +kernel
theorem dX3_put_0 : decode cX3_put 0 = .ok (.aload_n 0, 1) := by decide +kernel
theorem dX3_put_1 : decode cX3_put 1 = .ok (.getfield 9, 3) := by decide +kernel
theorem dX3_put_4 : decode cX3_put 4 = .ok (.iload_n 1, 1) := by decide +kernel
theorem dX3_put_5 : decode cX3_put 5 = .ok (.aload_n 0, 1) := by decide +kernel
theorem dX3_put_6 : decode cX3_put 6 = .ok (.getfield 19, 3) := by decide +kernel
theorem dX3_put_9 : decode cX3_put 9 = .ok (.ifCond .ne 8, 3) := by decide +kernel
theorem dX3_put_12 : decode cX3_put 12 = .ok (.iload_n 2, 1) := by decide +kernel
theorem dX3_put_13 : decode cX3_put 13 = .ok (.i2b, 1) := by decide +kernel
theorem dX3_put_14 : decode cX3_put 14 = .ok (.goto 17, 3) := by decide +kernel
theorem dX3_put_17 : decode cX3_put 17 = .ok (.aload_n 0, 1) := by decide +kernel
theorem dX3_put_18 : decode cX3_put 18 = .ok (.getfield 19, 3) := by decide +kernel
theorem dX3_put_21 : decode cX3_put 21 = .ok (.iconst 1, 1) := by decide +kernel
theorem dX3_put_22 : decode cX3_put 22 = .ok (.if_icmp .ne 8, 3) := by decide +kernel
theorem dX3_put_25 : decode cX3_put 25 = .ok (.iload_n 2, 1) := by decide +kernel
theorem dX3_put_26 : decode cX3_put 26 = .ok (.i2s, 1) := by decide +kernel
theorem dX3_put_27 : decode cX3_put 27 = .ok (.goto 4, 3) := by decide +kernel
theorem dX3_put_30 : decode cX3_put 30 = .ok (.iload_n 2, 1) := by decide +kernel
theorem dX3_put_31 : decode cX3_put 31 = .ok (.iastore, 1) := by decide +kernel
theorem dX3_put_32 : decode cX3_put 32 = .ok (.aload_n 0, 1) := by decide +kernel
theorem dX3_put_33 : decode cX3_put 33 = .ok (.getfield 9, 3) := by decide +kernel
theorem dX3_put_36 : decode cX3_put 36 = .ok (.iload_n 1, 1) := by decide +kernel
theorem dX3_put_37 : decode cX3_put 37 = .ok (.iaload, 1) := by decide +kernel
theorem dX3_put_38 : decode cX3_put 38 = .ok (.ireturn, 1) := by decide +kernel
theorem dX3_lose_0 : decode cX3_lose 0 = .ok (.aload_n 0, 1) := by decide +kernel
theorem dX3_lose_1 : decode cX3_lose 1 = .ok (.getfield 15, 3) := by decide +kernel
theorem dX3_lose_4 : decode cX3_lose 4 = .ok (.istore_n 1, 1) := by decide +kernel
theorem dX3_lose_5 : decode cX3_lose 5 = .ok (.aload_n 0, 1) := by decide +kernel
theorem dX3_lose_6 : decode cX3_lose 6 = .ok (.iconst (-1), 1) := by decide +kernel
theorem dX3_lose_7 : decode cX3_lose 7 = .ok (.putfield 15, 3) := by decide +kernel
theorem dX3_lose_10 : decode cX3_lose 10 = .ok (.iload_n 1, 1) := by decide +kernel
theorem dX3_lose_11 : decode cX3_lose 11 = .ok (.ireturn, 1) := by decide +kernel
theorem dX4_init_0 : decode cX4_init 0 = .ok (.aload_n 0, 1) := by decide +kernel
theorem dX4_init_1 : decode cX4_init 1 = .ok (.invokespecial 3, 3) := by decide +kernel
theorem dX4_init_4 : decode cX4_init 4 = .ok (.aload_n 0, 1) := by decide +kernel
theorem dX4_init_5 : decode cX4_init 5 = .ok (.bipush 80, 2) := by decide +kernel
theorem dX4_init_7 : decode cX4_init 7 = .ok (.newarray .int, 2) := by decide +kernel
theorem dX4_init_9 : decode cX4_init 9 = .ok (.putfield 9, 3) := by decide +kernel
theorem dX4_init_12 : decode cX4_init 12 = .ok (.aload_n 0, 1) := by decide +kernel
theorem dX4_init_13 : decode cX4_init 13 = .ok (.bipush 16, 2) := by decide +kernel
theorem dX4_init_15 : decode cX4_init 15 = .ok (.newarray .int, 2) := by decide +kernel
theorem dX4_init_17 : decode cX4_init 17 = .ok (.putfield 15, 3) := by decide +kernel
theorem dX4_init_20 : decode cX4_init 20 = .ok (.aload_n 0, 1) := by decide +kernel
theorem dX4_init_21 : decode cX4_init 21 = .ok (.iconst 5, 1) := by decide +kernel
theorem dX4_init_22 : decode cX4_init 22 = .ok (.newarray .int, 2) := by decide +kernel
theorem dX4_init_24 : decode cX4_init 24 = .ok (.putfield 18, 3) := by decide +kernel
theorem dX4_init_27 : decode cX4_init 27 = .ok (.aload_n 0, 1) := by decide +kernel
theorem dX4_init_28 : decode cX4_init 28 = .ok (.iconst 4, 1) := by decide +kernel
theorem dX4_init_29 : decode cX4_init 29 = .ok (.newarray .int, 2) := by decide +kernel
theorem dX4_init_31 : decode cX4_init 31 = .ok (.putfield 21, 3) := by decide +kernel
theorem dX4_init_34 : decode cX4_init 34 = .ok (.aload_n 0, 1) := by decide +kernel
theorem dX4_init_35 : decode cX4_init 35 = .ok (.iconst 4, 1) := by decide +kernel
theorem dX4_init_36 : decode cX4_init 36 = .ok (.newarray .int, 2) := by decide +kernel
theorem dX4_init_38 : decode cX4_init 38 = .ok (.putfield 24, 3) := by decide +kernel
theorem dX4_init_41 : decode cX4_init 41 = .ok (.return_, 1) := by decide +kernel
theorem dX4_findBest_0 : decode cX4_findBest 0 = .ok (.aload_n 0, 1) := by decide +kernel
theorem dX4_findBest_1 : decode cX4_findBest 1 = .ok (.aload_n 1, 1) := by decide +kernel
theorem dX4_findBest_2 : decode cX4_findBest 2 = .ok (.iload_n 2, 1) := by decide +kernel
theorem dX4_findBest_3 : decode cX4_findBest 3 = .ok (.invokevirtual 27, 3) := by decide +kernel
theorem dX4_findBest_6 : decode cX4_findBest 6 = .ok (.aload_n 0, 1) := by decide +kernel
theorem dX4_findBest_7 : decode cX4_findBest 7 = .ok (.iconst (-1), 1) := by decide +kernel
theorem dX4_findBest_8 : decode cX4_findBest 8 = .ok (.putfield 31, 3) := by decide +kernel
theorem dX4_findBest_11 : decode cX4_findBest 11 = .ok (.aload_n 1, 1) := by decide +kernel
theorem dX4_findBest_12 : decode cX4_findBest 12 = .ok (.invokestatic 35, 3) := by decide +kernel
theorem dX4_findBest_15 : decode cX4_findBest 15 = .ok (.istore_n 3, 1) := by decide +kernel
theorem dX4_findBest_16 : decode cX4_findBest 16 = .ok (.iconst 0, 1) := by decide +kernel
theorem dX4_findBest_17 : decode cX4_findBest 17 = .ok (.istore 4, 2) := by decide +kernel
theorem dX4_findBest_19 : decode cX4_findBest 19 = .ok (.iload 4, 2) := by decide +kernel
theorem dX4_findBest_21 : decode cX4_findBest 21 = .ok (.iload_n 3, 1) := by decide +kernel
theorem dX4_findBest_22 : decode cX4_findBest 22 = .ok (.if_icmp .ge 118, 3) := by decide +kernel
theorem dX4_findBest_25 : decode cX4_findBest 25 = .ok (.aload_n 0, 1) := by decide +kernel
theorem dX4_findBest_26 : decode cX4_findBest 26 = .ok (.aload_n 1, 1) := by decide +kernel
theorem dX4_findBest_27 : decode cX4_findBest 27 = .ok (.iload 4, 2) := by decide +kernel
theorem dX4_findBest_29 : decode cX4_findBest 29 = .ok (.invokevirtual 39, 3) := by decide +kernel
theorem dX4_findBest_32 : decode cX4_findBest 32 = .ok (.pop, 1) := by decide +kernel
theorem dX4_findBest_33 : decode cX4_findBest 33 = .ok (.iconst 0, 1) := by decide +kernel
theorem dX4_findBest_34 : decode cX4_findBest 34 = .ok (.istore 5, 2) := by decide +kernel
theorem dX4_findBest_36 : decode cX4_findBest 36 = .ok (.iconst 0, 1) := by decide +kernel
theorem dX4_findBest_37 : decode cX4_findBest 37 = .ok (.istore 6, 2) := by decide +kernel
theorem dX4_findBest_39 : decode cX4_findBest 39 = .ok (.iconst 0, 1) := by decide +kernel
theorem dX4_findBest_40 : decode cX4_findBest 40 = .ok (.istore 7, 2) := by decide +kernel
theorem dX4_findBest_42 : decode cX4_findBest 42 = .ok (.iload 7, 2) := by decide +kernel
theorem dX4_findBest_44 : decode cX4_findBest 44 = .ok (.aload_n 1, 1) := by decide +kernel
theorem dX4_findBest_45 : decode cX4_findBest 45 = .ok (.getfield 43, 3) := by decide +kernel
theorem dX4_findBest_48 : decode cX4_findBest 48 = .ok (.if_icmp .ge 43, 3) := by decide +kernel
theorem dX4_findBest_51 : decode cX4_findBest 51 = .ok (.aload_n 0, 1) := by decide +kernel
theorem dX4_findBest_52 : decode cX4_findBest 52 = .ok (.iload 7, 2) := by decide +kernel
theorem dX4_findBest_54 : decode cX4_findBest 54 = .ok (.invokevirtual 48, 3) := by decide +kernel
theorem dX4_findBest_57 : decode cX4_findBest 57 = .ok (.istore 8, 2) := by decide +kernel
theorem dX4_findBest_59 : decode cX4_findBest 59 = .ok (.iload 6, 2) := by decide +kernel
theorem dX4_findBest_61 : decode cX4_findBest 61 = .ok (.iload 8, 2) := by decide +kernel
theorem dX4_findBest_63 : decode cX4_findBest 63 = .ok (.iadd, 1) := by decide +kernel
theorem dX4_findBest_64 : decode cX4_findBest 64 = .ok (.istore 6, 2) := by decide +kernel
theorem dX4_findBest_66 : decode cX4_findBest 66 = .ok (.iload 5, 2) := by decide +kernel
theorem dX4_findBest_68 : decode cX4_findBest 68 = .ok (.iload 8, 2) := by decide +kernel
theorem dX4_findBest_70 : decode cX4_findBest 70 = .ok (.aload_n 1, 1) := by decide +kernel
theorem dX4_findBest_71 : decode cX4_findBest 71 = .ok (.getfield 52, 3) := by decide +kernel
theorem dX4_findBest_74 : decode cX4_findBest 74 = .ok (.if_icmp .gt 7, 3) := by decide +kernel
theorem dX4_findBest_77 : decode cX4_findBest 77 = .ok (.iconst 1, 1) := by decide +kernel
theorem dX4_findBest_78 : decode cX4_findBest 78 = .ok (.goto 4, 3) := by decide +kernel
theorem dX4_findBest_81 : decode cX4_findBest 81 = .ok (.iconst 0, 1) := by decide +kernel
theorem dX4_findBest_82 : decode cX4_findBest 82 = .ok (.iadd, 1) := by decide +kernel
theorem dX4_findBest_83 : decode cX4_findBest 83 = .ok (.istore 5, 2) := by decide +kernel
theorem dX4_findBest_85 : decode cX4_findBest 85 = .ok (.iinc 7 1, 3) := by decide +kernel
theorem dX4_findBest_88 : decode cX4_findBest 88 = .ok (.goto (-46), 3) := by decide +kernel
theorem dX4_findBest_91 : decode cX4_findBest 91 = .ok (.iload 5, 2) := by decide +kernel
theorem dX4_findBest_93 : decode cX4_findBest 93 = .ok (.aload_n 0, 1) := by decide +kernel
theorem dX4_findBest_94 : decode cX4_findBest 94 = .ok (.getfield 31, 3) := by decide +kernel
theorem dX4_findBest_97 : decode cX4_findBest 97 = .ok (.if_icmp .gt 21, 3) := by decide +kernel
theorem dX4_findBest_100 : decode cX4_findBest 100 = .ok (.iload 5, 2) := by decide +kernel
theorem dX4_findBest_102 : decode cX4_findBest 102 = .ok (.aload_n 0, 1) := by decide +kernel
theorem dX4_findBest_103 : decode cX4_findBest 103 = .ok (.getfield 31, 3) := by decide +kernel
theorem dX4_findBest_106 : decode cX4_findBest 106 = .ok (.if_icmp .ne 28, 3) := by decide +kernel
theorem dX4_findBest_109 : decode cX4_findBest 109 = .ok (.iload 6, 2) := by decide +kernel
theorem dX4_findBest_111 : decode cX4_findBest 111 = .ok (.aload_n 0, 1) := by decide +kernel
theorem dX4_findBest_112 : decode cX4_findBest 112 = .ok (.getfield 55, 3) := by decide +kernel
theorem dX4_findBest_115 : decode cX4_findBest 115 = .ok (.if_icmp .ge 19, 3) := by decide +kernel
theorem dX4_findBest_118 : decode cX4_findBest 118 = .ok (.aload_n 0, 1) := by decide +kernel
theorem dX4_findBest_119 : decode cX4_findBest 119 = .ok (.iload 5, 2) := by decide +kernel
theorem dX4_findBest_121 : decode cX4_findBest 121 = .ok (.putfield 31, 3) := by decide +kernel
theorem dX4_findBest_124 : decode cX4_findBest 124 = .ok (.aload_n 0, 1) := by decide +kernel
theorem dX4_findBest_125 : decode cX4_findBest 125 = .ok (.iload 6, 2) := by decide +kernel
theorem dX4_findBest_127 : decode cX4_findBest 127 = .ok (.putfield 55, 3) := by decide +kernel
theorem dX4_findBest_130 : decode cX4_findBest 130 = .ok (.aload_n 0, 1) := by decide +kernel
theorem dX4_findBest_131 : decode cX4_findBest 131 = .ok (.invokevirtual 58, 3) := by decide +kernel
theorem dX4_findBest_134 : decode cX4_findBest 134 = .ok (.iinc 4 1, 3) := by decide +kernel
theorem dX4_findBest_137 : decode cX4_findBest 137 = .ok (.goto (-118), 3) := by decide +kernel
theorem dX4_findBest_140 : decode cX4_findBest 140 = .ok (.return_, 1) := by decide +kernel
theorem dX4_findFewest_0 : decode cX4_findFewest 0 = .ok (.aload_n 0, 1) := by decide +kernel
theorem dX4_findFewest_1 : decode cX4_findFewest 1 = .ok (.aload_n 1, 1) := by decide +kernel
theorem dX4_findFewest_2 : decode cX4_findFewest 2 = .ok (.iload_n 3, 1) := by decide +kernel
theorem dX4_findFewest_3 : decode cX4_findFewest 3 = .ok (.invokevirtual 27, 3) := by decide +kernel
theorem dX4_findFewest_6 : decode cX4_findFewest 6 = .ok (.aload_n 0, 1) := by decide +kernel
theorem dX4_findFewest_7 : decode cX4_findFewest 7 = .ok (.ldc 61, 2) := by decide +kernel
theorem dX4_findFewest_9 : decode cX4_findFewest 9 = .ok (.putfield 62, 3) := by decide +kernel
theorem dX4_findFewest_12 : decode cX4_findFewest 12 = .ok (.aload_n 1, 1) := by decide +kernel
theorem dX4_findFewest_13 : decode cX4_findFewest 13 = .ok (.invokestatic 35, 3) := by decide +kernel
theorem dX4_findFewest_16 : decode cX4_findFewest 16 = .ok (.istore 4, 2) := by decide +kernel
theorem dX4_findFewest_18 : decode cX4_findFewest 18 = .ok (.iconst 0, 1) := by decide +kernel
theorem dX4_findFewest_19 : decode cX4_findFewest 19 = .ok (.istore 5, 2) := by decide +kernel
theorem dX4_findFewest_21 : decode cX4_findFewest 21 = .ok (.iload 5, 2) := by decide +kernel
theorem dX4_findFewest_23 : decode cX4_findFewest 23 = .ok (.iload 4, 2) := by decide +kernel
theorem dX4_findFewest_25 : decode cX4_findFewest 25 = .ok (.if_icmp .ge 55, 3) := by decide +kernel
theorem dX4_findFewest_28 : decode cX4_findFewest 28 = .ok (.aload_n 0, 1) := by decide +kernel
theorem dX4_findFewest_29 : decode cX4_findFewest 29 = .ok (.aload_n 1, 1) := by decide +kernel
theorem dX4_findFewest_30 : decode cX4_findFewest 30 = .ok (.iload 5, 2) := by decide +kernel
theorem dX4_findFewest_32 : decode cX4_findFewest 32 = .ok (.invokevirtual 39, 3) := by decide +kernel
theorem dX4_findFewest_35 : decode cX4_findFewest 35 = .ok (.istore 6, 2) := by decide +kernel
theorem dX4_findFewest_37 : decode cX4_findFewest 37 = .ok (.aload_n 0, 1) := by decide +kernel
theorem dX4_findFewest_38 : decode cX4_findFewest 38 = .ok (.getfield 62, 3) := by decide +kernel
theorem dX4_findFewest_41 : decode cX4_findFewest 41 = .ok (.ldc 61, 2) := by decide +kernel
theorem dX4_findFewest_43 : decode cX4_findFewest 43 = .ok (.if_icmp .eq 12, 3) := by decide +kernel
theorem dX4_findFewest_46 : decode cX4_findFewest 46 = .ok (.iload 6, 2) := by decide +kernel
theorem dX4_findFewest_48 : decode cX4_findFewest 48 = .ok (.aload_n 0, 1) := by decide +kernel
theorem dX4_findFewest_49 : decode cX4_findFewest 49 = .ok (.getfield 62, 3) := by decide +kernel
theorem dX4_findFewest_52 : decode cX4_findFewest 52 = .ok (.if_icmp .ge 22, 3) := by decide +kernel
theorem dX4_findFewest_55 : decode cX4_findFewest 55 = .ok (.aload_n 0, 1) := by decide +kernel
theorem dX4_findFewest_56 : decode cX4_findFewest 56 = .ok (.aload_n 1, 1) := by decide +kernel
theorem dX4_findFewest_57 : decode cX4_findFewest 57 = .ok (.iload_n 2, 1) := by decide +kernel
theorem dX4_findFewest_58 : decode cX4_findFewest 58 = .ok (.invokevirtual 65, 3) := by decide +kernel
theorem dX4_findFewest_61 : decode cX4_findFewest 61 = .ok (.ifCond .eq 13, 3) := by decide +kernel
theorem dX4_findFewest_64 : decode cX4_findFewest 64 = .ok (.aload_n 0, 1) := by decide +kernel
theorem dX4_findFewest_65 : decode cX4_findFewest 65 = .ok (.iload 6, 2) := by decide +kernel
theorem dX4_findFewest_67 : decode cX4_findFewest 67 = .ok (.putfield 62, 3) := by decide +kernel
theorem dX4_findFewest_70 : decode cX4_findFewest 70 = .ok (.aload_n 0, 1) := by decide +kernel
theorem dX4_findFewest_71 : decode cX4_findFewest 71 = .ok (.invokevirtual 58, 3) := by decide +kernel
theorem dX4_findFewest_74 : decode cX4_findFewest 74 = .ok (.iinc 5 1, 3) := by decide +kernel
theorem dX4_findFewest_77 : decode cX4_findFewest 77 = .ok (.goto (-56), 3) := by decide +kernel
theorem dX4_findFewest_80 : decode cX4_findFewest 80 = .ok (.return_, 1) := by decide +kernel
theorem dX4_restAll_0 : decode cX4_restAll 0 = .ok (.iconst 0, 1) := by decide +kernel
theorem dX4_restAll_1 : decode cX4_restAll 1 = .ok (.istore_n 3, 1) := by decide +kernel
theorem dX4_restAll_2 : decode cX4_restAll 2 = .ok (.iload_n 3, 1) := by decide +kernel
theorem dX4_restAll_3 : decode cX4_restAll 3 = .ok (.aload_n 1, 1) := by decide +kernel
theorem dX4_restAll_4 : decode cX4_restAll 4 = .ok (.getfield 43, 3) := by decide +kernel
theorem dX4_restAll_7 : decode cX4_restAll 7 = .ok (.if_icmp .ge 32, 3) := by decide +kernel
theorem dX4_restAll_10 : decode cX4_restAll 10 = .ok (.iload_n 2, 1) := by decide +kernel
theorem dX4_restAll_11 : decode cX4_restAll 11 = .ok (.iload_n 3, 1) := by decide +kernel
theorem dX4_restAll_12 : decode cX4_restAll 12 = .ok (.ishr, 1) := by decide +kernel
theorem dX4_restAll_13 : decode cX4_restAll 13 = .ok (.iconst 1, 1) := by decide +kernel
theorem dX4_restAll_14 : decode cX4_restAll 14 = .ok (.iand, 1) := by decide +kernel
theorem dX4_restAll_15 : decode cX4_restAll 15 = .ok (.iconst 1, 1) := by decide +kernel
theorem dX4_restAll_16 : decode cX4_restAll 16 = .ok (.if_icmp .ne 17, 3) := by decide +kernel
theorem dX4_restAll_19 : decode cX4_restAll 19 = .ok (.aload_n 0, 1) := by decide +kernel
theorem dX4_restAll_20 : decode cX4_restAll 20 = .ok (.iload_n 3, 1) := by decide +kernel
theorem dX4_restAll_21 : decode cX4_restAll 21 = .ok (.invokevirtual 48, 3) := by decide +kernel
theorem dX4_restAll_24 : decode cX4_restAll 24 = .ok (.aload_n 1, 1) := by decide +kernel
theorem dX4_restAll_25 : decode cX4_restAll 25 = .ok (.getfield 52, 3) := by decide +kernel
theorem dX4_restAll_28 : decode cX4_restAll 28 = .ok (.if_icmp .le 5, 3) := by decide +kernel
theorem dX4_restAll_31 : decode cX4_restAll 31 = .ok (.iconst 0, 1) := by decide +kernel
theorem dX4_restAll_32 : decode cX4_restAll 32 = .ok (.ireturn, 1) := by decide +kernel
theorem dX4_restAll_33 : decode cX4_restAll 33 = .ok (.iinc 3 1, 3) := by decide +kernel
theorem dX4_restAll_36 : decode cX4_restAll 36 = .ok (.goto (-34), 3) := by decide +kernel
theorem dX4_restAll_39 : decode cX4_restAll 39 = .ok (.iconst 1, 1) := by decide +kernel
theorem dX4_restAll_40 : decode cX4_restAll 40 = .ok (.ireturn, 1) := by decide +kernel
theorem dX4_weightBehind_0 : decode cX4_weightBehind 0 = .ok (.aload_n 0, 1) := by decide +kernel
theorem dX4_weightBehind_1 : decode cX4_weightBehind 1 = .ok (.getfield 9, 3) := by decide +kernel
theorem dX4_weightBehind_4 : decode cX4_weightBehind 4 = .ok (.iload_n 1, 1) := by decide +kernel
theorem dX4_weightBehind_5 : decode cX4_weightBehind 5 = .ok (.bipush 16, 2) := by decide +kernel
theorem dX4_weightBehind_7 : decode cX4_weightBehind 7 = .ok (.imul, 1) := by decide +kernel
theorem dX4_weightBehind_8 : decode cX4_weightBehind 8 = .ok (.aload_n 0, 1) := by decide +kernel
theorem dX4_weightBehind_9 : decode cX4_weightBehind 9 = .ok (.getfield 18, 3) := by decide +kernel
theorem dX4_weightBehind_12 : decode cX4_weightBehind 12 = .ok (.iload_n 1, 1) := by decide +kernel
theorem dX4_weightBehind_13 : decode cX4_weightBehind 13 = .ok (.iaload, 1) := by decide +kernel
theorem dX4_weightBehind_14 : decode cX4_weightBehind 14 = .ok (.iadd, 1) := by decide +kernel
theorem dX4_weightBehind_15 : decode cX4_weightBehind 15 = .ok (.iaload, 1) := by decide +kernel
theorem dX4_weightBehind_16 : decode cX4_weightBehind 16 = .ok (.ireturn, 1) := by decide +kernel
theorem dX4_choose_0 : decode cX4_choose 0 = .ok (.aload_n 0, 1) := by decide +kernel
theorem dX4_choose_1 : decode cX4_choose 1 = .ok (.getfield 21, 3) := by decide +kernel
theorem dX4_choose_4 : decode cX4_choose 4 = .ok (.iconst 0, 1) := by decide +kernel
theorem dX4_choose_5 : decode cX4_choose 5 = .ok (.aload_n 0, 1) := by decide +kernel
theorem dX4_choose_6 : decode cX4_choose 6 = .ok (.getfield 24, 3) := by decide +kernel
theorem dX4_choose_9 : decode cX4_choose 9 = .ok (.iconst 0, 1) := by decide +kernel
theorem dX4_choose_10 : decode cX4_choose 10 = .ok (.iconst 4, 1) := by decide +kernel
theorem dX4_choose_11 : decode cX4_choose 11 = .ok (.invokestatic 69, 3) := by decide +kernel
theorem dX4_choose_14 : decode cX4_choose 14 = .ok (.return_, 1) := by decide +kernel
theorem dX4_foretellSets_0 : decode cX4_foretellSets 0 = .ok (.iconst 0, 1) := by decide +kernel
theorem dX4_foretellSets_1 : decode cX4_foretellSets 1 = .ok (.istore_n 3, 1) := by decide +kernel
theorem dX4_foretellSets_2 : decode cX4_foretellSets 2 = .ok (.iload_n 3, 1) := by decide +kernel
theorem dX4_foretellSets_3 : decode cX4_foretellSets 3 = .ok (.aload_n 1, 1) := by decide +kernel
theorem dX4_foretellSets_4 : decode cX4_foretellSets 4 = .ok (.getfield 43, 3) := by decide +kernel
theorem dX4_foretellSets_7 : decode cX4_foretellSets 7 = .ok (.if_icmp .ge 120, 3) := by decide +kernel
theorem dX4_foretellSets_10 : decode cX4_foretellSets 10 = .ok (.iconst 0, 1) := by decide +kernel
theorem dX4_foretellSets_11 : decode cX4_foretellSets 11 = .ok (.istore 4, 2) := by decide +kernel
theorem dX4_foretellSets_13 : decode cX4_foretellSets 13 = .ok (.iload 4, 2) := by decide +kernel
theorem dX4_foretellSets_15 : decode cX4_foretellSets 15 = .ok (.bipush 16, 2) := by decide +kernel
theorem dX4_foretellSets_17 : decode cX4_foretellSets 17 = .ok (.if_icmp .ge 27, 3) := by decide +kernel
theorem dX4_foretellSets_20 : decode cX4_foretellSets 20 = .ok (.aload_n 0, 1) := by decide +kernel
theorem dX4_foretellSets_21 : decode cX4_foretellSets 21 = .ok (.getfield 9, 3) := by decide +kernel
theorem dX4_foretellSets_24 : decode cX4_foretellSets 24 = .ok (.iload_n 3, 1) := by decide +kernel
theorem dX4_foretellSets_25 : decode cX4_foretellSets 25 = .ok (.bipush 16, 2) := by decide +kernel
theorem dX4_foretellSets_27 : decode cX4_foretellSets 27 = .ok (.imul, 1) := by decide +kernel
theorem dX4_foretellSets_28 : decode cX4_foretellSets 28 = .ok (.iload 4, 2) := by decide +kernel
theorem dX4_foretellSets_30 : decode cX4_foretellSets 30 = .ok (.iadd, 1) := by decide +kernel
theorem dX4_foretellSets_31 : decode cX4_foretellSets 31 = .ok (.aload_n 1, 1) := by decide +kernel
theorem dX4_foretellSets_32 : decode cX4_foretellSets 32 = .ok (.getfield 75, 3) := by decide +kernel
theorem dX4_foretellSets_35 : decode cX4_foretellSets 35 = .ok (.iload_n 3, 1) := by decide +kernel
theorem dX4_foretellSets_36 : decode cX4_foretellSets 36 = .ok (.iaload, 1) := by decide +kernel
theorem dX4_foretellSets_37 : decode cX4_foretellSets 37 = .ok (.iastore, 1) := by decide +kernel
theorem dX4_foretellSets_38 : decode cX4_foretellSets 38 = .ok (.iinc 4 1, 3) := by decide +kernel
theorem dX4_foretellSets_41 : decode cX4_foretellSets 41 = .ok (.goto (-28), 3) := by decide +kernel
theorem dX4_foretellSets_44 : decode cX4_foretellSets 44 = .ok (.iconst 0, 1) := by decide +kernel
theorem dX4_foretellSets_45 : decode cX4_foretellSets 45 = .ok (.istore 4, 2) := by decide +kernel
theorem dX4_foretellSets_47 : decode cX4_foretellSets 47 = .ok (.iload 4, 2) := by decide +kernel
theorem dX4_foretellSets_49 : decode cX4_foretellSets 49 = .ok (.iload_n 2, 1) := by decide +kernel
theorem dX4_foretellSets_50 : decode cX4_foretellSets 50 = .ok (.if_icmp .ge 71, 3) := by decide +kernel
theorem dX4_foretellSets_53 : decode cX4_foretellSets 53 = .ok (.aload_n 0, 1) := by decide +kernel
theorem dX4_foretellSets_54 : decode cX4_foretellSets 54 = .ok (.aload_n 1, 1) := by decide +kernel
theorem dX4_foretellSets_55 : decode cX4_foretellSets 55 = .ok (.iload_n 3, 1) := by decide +kernel
theorem dX4_foretellSets_56 : decode cX4_foretellSets 56 = .ok (.aload_n 1, 1) := by decide +kernel
theorem dX4_foretellSets_57 : decode cX4_foretellSets 57 = .ok (.getfield 78, 3) := by decide +kernel
theorem dX4_foretellSets_60 : decode cX4_foretellSets 60 = .ok (.iload 4, 2) := by decide +kernel
theorem dX4_foretellSets_62 : decode cX4_foretellSets 62 = .ok (.iadd, 1) := by decide +kernel
theorem dX4_foretellSets_63 : decode cX4_foretellSets 63 = .ok (.invokevirtual 81, 3) := by decide +kernel
theorem dX4_foretellSets_66 : decode cX4_foretellSets 66 = .ok (.iconst 0, 1) := by decide +kernel
theorem dX4_foretellSets_67 : decode cX4_foretellSets 67 = .ok (.istore 5, 2) := by decide +kernel
theorem dX4_foretellSets_69 : decode cX4_foretellSets 69 = .ok (.iload 5, 2) := by decide +kernel
theorem dX4_foretellSets_71 : decode cX4_foretellSets 71 = .ok (.bipush 16, 2) := by decide +kernel
theorem dX4_foretellSets_73 : decode cX4_foretellSets 73 = .ok (.if_icmp .ge 42, 3) := by decide +kernel
theorem dX4_foretellSets_76 : decode cX4_foretellSets 76 = .ok (.iload_n 3, 1) := by decide +kernel
theorem dX4_foretellSets_77 : decode cX4_foretellSets 77 = .ok (.bipush 16, 2) := by decide +kernel
theorem dX4_foretellSets_79 : decode cX4_foretellSets 79 = .ok (.imul, 1) := by decide +kernel
theorem dX4_foretellSets_80 : decode cX4_foretellSets 80 = .ok (.iload 5, 2) := by decide +kernel
theorem dX4_foretellSets_82 : decode cX4_foretellSets 82 = .ok (.iadd, 1) := by decide +kernel
theorem dX4_foretellSets_83 : decode cX4_foretellSets 83 = .ok (.istore 6, 2) := by decide +kernel
theorem dX4_foretellSets_85 : decode cX4_foretellSets 85 = .ok (.aload_n 0, 1) := by decide +kernel
theorem dX4_foretellSets_86 : decode cX4_foretellSets 86 = .ok (.getfield 9, 3) := by decide +kernel
theorem dX4_foretellSets_89 : decode cX4_foretellSets 89 = .ok (.iload 6, 2) := by decide +kernel
theorem dX4_foretellSets_91 : decode cX4_foretellSets 91 = .ok (.aload_n 0, 1) := by decide +kernel
theorem dX4_foretellSets_92 : decode cX4_foretellSets 92 = .ok (.getfield 9, 3) := by decide +kernel
theorem dX4_foretellSets_95 : decode cX4_foretellSets 95 = .ok (.iload 6, 2) := by decide +kernel
theorem dX4_foretellSets_97 : decode cX4_foretellSets 97 = .ok (.iaload, 1) := by decide +kernel
theorem dX4_foretellSets_98 : decode cX4_foretellSets 98 = .ok (.aload_n 0, 1) := by decide +kernel
theorem dX4_foretellSets_99 : decode cX4_foretellSets 99 = .ok (.getfield 15, 3) := by decide +kernel
theorem dX4_foretellSets_102 : decode cX4_foretellSets 102 = .ok (.iload 5, 2) := by decide +kernel
theorem dX4_foretellSets_104 : decode cX4_foretellSets 104 = .ok (.iaload, 1) := by decide +kernel
theorem dX4_foretellSets_105 : decode cX4_foretellSets 105 = .ok (.invokestatic 85, 3) := by decide +kernel
theorem dX4_foretellSets_108 : decode cX4_foretellSets 108 = .ok (.iastore, 1) := by decide +kernel
theorem dX4_foretellSets_109 : decode cX4_foretellSets 109 = .ok (.iinc 5 1, 3) := by decide +kernel
theorem dX4_foretellSets_112 : decode cX4_foretellSets 112 = .ok (.goto (-43), 3) := by decide +kernel
theorem dX4_foretellSets_115 : decode cX4_foretellSets 115 = .ok (.iinc 4 1, 3) := by decide +kernel
theorem dX4_foretellSets_118 : decode cX4_foretellSets 118 = .ok (.goto (-71), 3) := by decide +kernel
theorem dX4_foretellSets_121 : decode cX4_foretellSets 121 = .ok (.iinc 3 1, 3) := by decide +kernel
theorem dX4_foretellSets_124 : decode cX4_foretellSets 124 = .ok (.goto (-122), 3) := by decide +kernel
theorem dX4_foretellSets_127 : decode cX4_foretellSets 127 = .ok (.return_, 1) := by decide +kernel
theorem dX4_findTaken_0 : decode cX4_findTaken 0 = .ok (.aload_n 0, 1) := by decide +kernel
theorem dX4_findTaken_1 : decode cX4_findTaken 1 = .ok (.getfield 15, 3) := by decide +kernel
theorem dX4_findTaken_4 : decode cX4_findTaken 4 = .ok (.iconst 0, 1) := by decide +kernel
theorem dX4_findTaken_5 : decode cX4_findTaken 5 = .ok (.iconst 0, 1) := by decide +kernel
theorem dX4_findTaken_6 : decode cX4_findTaken 6 = .ok (.iastore, 1) := by decide +kernel
theorem dX4_findTaken_7 : decode cX4_findTaken 7 = .ok (.iconst 1, 1) := by decide +kernel
theorem dX4_findTaken_8 : decode cX4_findTaken 8 = .ok (.istore 4, 2) := by decide +kernel
theorem dX4_findTaken_10 : decode cX4_findTaken 10 = .ok (.iload 4, 2) := by decide +kernel
theorem dX4_findTaken_12 : decode cX4_findTaken 12 = .ok (.bipush 16, 2) := by decide +kernel
theorem dX4_findTaken_14 : decode cX4_findTaken 14 = .ok (.if_icmp .ge 64, 3) := by decide +kernel
theorem dX4_findTaken_17 : decode cX4_findTaken 17 = .ok (.iload 4, 2) := by decide +kernel
theorem dX4_findTaken_19 : decode cX4_findTaken 19 = .ok (.iload 4, 2) := by decide +kernel
theorem dX4_findTaken_21 : decode cX4_findTaken 21 = .ok (.iconst 1, 1) := by decide +kernel
theorem dX4_findTaken_22 : decode cX4_findTaken 22 = .ok (.isub, 1) := by decide +kernel
theorem dX4_findTaken_23 : decode cX4_findTaken 23 = .ok (.iand, 1) := by decide +kernel
theorem dX4_findTaken_24 : decode cX4_findTaken 24 = .ok (.istore 5, 2) := by decide +kernel
theorem dX4_findTaken_26 : decode cX4_findTaken 26 = .ok (.aload_n 0, 1) := by decide +kernel
theorem dX4_findTaken_27 : decode cX4_findTaken 27 = .ok (.getfield 15, 3) := by decide +kernel
theorem dX4_findTaken_30 : decode cX4_findTaken 30 = .ok (.iload 4, 2) := by decide +kernel
theorem dX4_findTaken_32 : decode cX4_findTaken 32 = .ok (.iload 5, 2) := by decide +kernel
theorem dX4_findTaken_34 : decode cX4_findTaken 34 = .ok (.ifCond .ne 17, 3) := by decide +kernel
theorem dX4_findTaken_37 : decode cX4_findTaken 37 = .ok (.aload_n 1, 1) := by decide +kernel
theorem dX4_findTaken_38 : decode cX4_findTaken 38 = .ok (.iload 4, 2) := by decide +kernel
theorem dX4_findTaken_40 : decode cX4_findTaken 40 = .ok (.invokestatic 89, 3) := by decide +kernel
theorem dX4_findTaken_43 : decode cX4_findTaken 43 = .ok (.iload_n 2, 1) := by decide +kernel
theorem dX4_findTaken_44 : decode cX4_findTaken 44 = .ok (.iload_n 3, 1) := by decide +kernel
theorem dX4_findTaken_45 : decode cX4_findTaken 45 = .ok (.invokevirtual 94, 3) := by decide +kernel
theorem dX4_findTaken_48 : decode cX4_findTaken 48 = .ok (.goto 23, 3) := by decide +kernel
theorem dX4_findTaken_51 : decode cX4_findTaken 51 = .ok (.aload_n 0, 1) := by decide +kernel
theorem dX4_findTaken_52 : decode cX4_findTaken 52 = .ok (.getfield 15, 3) := by decide +kernel
theorem dX4_findTaken_55 : decode cX4_findTaken 55 = .ok (.iload 5, 2) := by decide +kernel
theorem dX4_findTaken_57 : decode cX4_findTaken 57 = .ok (.iaload, 1) := by decide +kernel
theorem dX4_findTaken_58 : decode cX4_findTaken 58 = .ok (.aload_n 0, 1) := by decide +kernel
theorem dX4_findTaken_59 : decode cX4_findTaken 59 = .ok (.getfield 15, 3) := by decide +kernel
theorem dX4_findTaken_62 : decode cX4_findTaken 62 = .ok (.iload 4, 2) := by decide +kernel
theorem dX4_findTaken_64 : decode cX4_findTaken 64 = .ok (.iload 5, 2) := by decide +kernel
theorem dX4_findTaken_66 : decode cX4_findTaken 66 = .ok (.isub, 1) := by decide +kernel
theorem dX4_findTaken_67 : decode cX4_findTaken 67 = .ok (.iaload, 1) := by decide +kernel
theorem dX4_findTaken_68 : decode cX4_findTaken 68 = .ok (.invokestatic 98, 3) := by decide +kernel
theorem dX4_findTaken_71 : decode cX4_findTaken 71 = .ok (.iastore, 1) := by decide +kernel
theorem dX4_findTaken_72 : decode cX4_findTaken 72 = .ok (.iinc 4 1, 3) := by decide +kernel
theorem dX4_findTaken_75 : decode cX4_findTaken 75 = .ok (.goto (-65), 3) := by decide +kernel
theorem dX4_findTaken_78 : decode cX4_findTaken 78 = .ok (.return_, 1) := by decide +kernel
theorem dX4_waysToLet_0 : decode cX4_waysToLet 0 = .ok (.iconst 1, 1) := by decide +kernel
theorem dX4_waysToLet_1 : decode cX4_waysToLet 1 = .ok (.istore_n 1, 1) := by decide +kernel
theorem dX4_waysToLet_2 : decode cX4_waysToLet 2 = .ok (.iconst 0, 1) := by decide +kernel
theorem dX4_waysToLet_3 : decode cX4_waysToLet 3 = .ok (.istore_n 2, 1) := by decide +kernel
theorem dX4_waysToLet_4 : decode cX4_waysToLet 4 = .ok (.iload_n 2, 1) := by decide +kernel
theorem dX4_waysToLet_5 : decode cX4_waysToLet 5 = .ok (.aload_n 0, 1) := by decide +kernel
theorem dX4_waysToLet_6 : decode cX4_waysToLet 6 = .ok (.getfield 103, 3) := by decide +kernel
theorem dX4_waysToLet_9 : decode cX4_waysToLet 9 = .ok (.if_icmp .ge 18, 3) := by decide +kernel
theorem dX4_waysToLet_12 : decode cX4_waysToLet 12 = .ok (.iload_n 1, 1) := by decide +kernel
theorem dX4_waysToLet_13 : decode cX4_waysToLet 13 = .ok (.aload_n 0, 1) := by decide +kernel
theorem dX4_waysToLet_14 : decode cX4_waysToLet 14 = .ok (.getfield 43, 3) := by decide +kernel
theorem dX4_waysToLet_17 : decode cX4_waysToLet 17 = .ok (.iconst 1, 1) := by decide +kernel
theorem dX4_waysToLet_18 : decode cX4_waysToLet 18 = .ok (.iadd, 1) := by decide +kernel
theorem dX4_waysToLet_19 : decode cX4_waysToLet 19 = .ok (.imul, 1) := by decide +kernel
theorem dX4_waysToLet_20 : decode cX4_waysToLet 20 = .ok (.istore_n 1, 1) := by decide +kernel
theorem dX4_waysToLet_21 : decode cX4_waysToLet 21 = .ok (.iinc 2 1, 3) := by decide +kernel
theorem dX4_waysToLet_24 : decode cX4_waysToLet 24 = .ok (.goto (-20), 3) := by decide +kernel
theorem dX4_waysToLet_27 : decode cX4_waysToLet 27 = .ok (.iload_n 1, 1) := by decide +kernel
theorem dX4_waysToLet_28 : decode cX4_waysToLet 28 = .ok (.ireturn, 1) := by decide +kernel
theorem dX4_tryWay_0 : decode cX4_tryWay 0 = .ok (.iconst 0, 1) := by decide +kernel
theorem dX4_tryWay_1 : decode cX4_tryWay 1 = .ok (.istore_n 3, 1) := by decide +kernel
theorem dX4_tryWay_2 : decode cX4_tryWay 2 = .ok (.iload_n 3, 1) := by decide +kernel
theorem dX4_tryWay_3 : decode cX4_tryWay 3 = .ok (.iconst 5, 1) := by decide +kernel
theorem dX4_tryWay_4 : decode cX4_tryWay 4 = .ok (.if_icmp .ge 16, 3) := by decide +kernel
theorem dX4_tryWay_7 : decode cX4_tryWay 7 = .ok (.aload_n 0, 1) := by decide +kernel
theorem dX4_tryWay_8 : decode cX4_tryWay 8 = .ok (.getfield 18, 3) := by decide +kernel
theorem dX4_tryWay_11 : decode cX4_tryWay 11 = .ok (.iload_n 3, 1) := by decide +kernel
theorem dX4_tryWay_12 : decode cX4_tryWay 12 = .ok (.iconst 0, 1) := by decide +kernel
theorem dX4_tryWay_13 : decode cX4_tryWay 13 = .ok (.iastore, 1) := by decide +kernel
theorem dX4_tryWay_14 : decode cX4_tryWay 14 = .ok (.iinc 3 1, 3) := by decide +kernel
theorem dX4_tryWay_17 : decode cX4_tryWay 17 = .ok (.goto (-15), 3) := by decide +kernel
theorem dX4_tryWay_20 : decode cX4_tryWay 20 = .ok (.iconst 1, 1) := by decide +kernel
theorem dX4_tryWay_21 : decode cX4_tryWay 21 = .ok (.aload_n 1, 1) := by decide +kernel
theorem dX4_tryWay_22 : decode cX4_tryWay 22 = .ok (.getfield 43, 3) := by decide +kernel
theorem dX4_tryWay_25 : decode cX4_tryWay 25 = .ok (.iconst 1, 1) := by decide +kernel
theorem dX4_tryWay_26 : decode cX4_tryWay 26 = .ok (.iadd, 1) := by decide +kernel
theorem dX4_tryWay_27 : decode cX4_tryWay 27 = .ok (.invokestatic 98, 3) := by decide +kernel
theorem dX4_tryWay_30 : decode cX4_tryWay 30 = .ok (.istore_n 3, 1) := by decide +kernel
theorem dX4_tryWay_31 : decode cX4_tryWay 31 = .ok (.iload_n 2, 1) := by decide +kernel
theorem dX4_tryWay_32 : decode cX4_tryWay 32 = .ok (.istore 4, 2) := by decide +kernel
theorem dX4_tryWay_34 : decode cX4_tryWay 34 = .ok (.iconst 0, 1) := by decide +kernel
theorem dX4_tryWay_35 : decode cX4_tryWay 35 = .ok (.istore 5, 2) := by decide +kernel
theorem dX4_tryWay_37 : decode cX4_tryWay 37 = .ok (.aload_n 1, 1) := by decide +kernel
theorem dX4_tryWay_38 : decode cX4_tryWay 38 = .ok (.getfield 103, 3) := by decide +kernel
theorem dX4_tryWay_41 : decode cX4_tryWay 41 = .ok (.iconst 1, 1) := by decide +kernel
theorem dX4_tryWay_42 : decode cX4_tryWay 42 = .ok (.isub, 1) := by decide +kernel
theorem dX4_tryWay_43 : decode cX4_tryWay 43 = .ok (.istore 6, 2) := by decide +kernel
theorem dX4_tryWay_45 : decode cX4_tryWay 45 = .ok (.iload 6, 2) := by decide +kernel
theorem dX4_tryWay_47 : decode cX4_tryWay 47 = .ok (.ifCond .lt 64, 3) := by decide +kernel
theorem dX4_tryWay_50 : decode cX4_tryWay 50 = .ok (.iload 4, 2) := by decide +kernel
theorem dX4_tryWay_52 : decode cX4_tryWay 52 = .ok (.iload_n 3, 1) := by decide +kernel
theorem dX4_tryWay_53 : decode cX4_tryWay 53 = .ok (.irem, 1) := by decide +kernel
theorem dX4_tryWay_54 : decode cX4_tryWay 54 = .ok (.istore 7, 2) := by decide +kernel
theorem dX4_tryWay_56 : decode cX4_tryWay 56 = .ok (.iload 4, 2) := by decide +kernel
theorem dX4_tryWay_58 : decode cX4_tryWay 58 = .ok (.iload_n 3, 1) := by decide +kernel
theorem dX4_tryWay_59 : decode cX4_tryWay 59 = .ok (.idiv, 1) := by decide +kernel
theorem dX4_tryWay_60 : decode cX4_tryWay 60 = .ok (.istore 4, 2) := by decide +kernel
theorem dX4_tryWay_62 : decode cX4_tryWay 62 = .ok (.aload_n 0, 1) := by decide +kernel
theorem dX4_tryWay_63 : decode cX4_tryWay 63 = .ok (.getfield 21, 3) := by decide +kernel
theorem dX4_tryWay_66 : decode cX4_tryWay 66 = .ok (.iload 6, 2) := by decide +kernel
theorem dX4_tryWay_68 : decode cX4_tryWay 68 = .ok (.iconst 5, 1) := by decide +kernel
theorem dX4_tryWay_69 : decode cX4_tryWay 69 = .ok (.iastore, 1) := by decide +kernel
theorem dX4_tryWay_70 : decode cX4_tryWay 70 = .ok (.aload_n 1, 1) := by decide +kernel
theorem dX4_tryWay_71 : decode cX4_tryWay 71 = .ok (.iload 7, 2) := by decide +kernel
theorem dX4_tryWay_73 : decode cX4_tryWay 73 = .ok (.invokevirtual 106, 3) := by decide +kernel
theorem dX4_tryWay_76 : decode cX4_tryWay 76 = .ok (.ifCond .eq 29, 3) := by decide +kernel
theorem dX4_tryWay_79 : decode cX4_tryWay 79 = .ok (.aload_n 0, 1) := by decide +kernel
theorem dX4_tryWay_80 : decode cX4_tryWay 80 = .ok (.getfield 21, 3) := by decide +kernel
theorem dX4_tryWay_83 : decode cX4_tryWay 83 = .ok (.iload 6, 2) := by decide +kernel
theorem dX4_tryWay_85 : decode cX4_tryWay 85 = .ok (.iload 7, 2) := by decide +kernel
theorem dX4_tryWay_87 : decode cX4_tryWay 87 = .ok (.iastore, 1) := by decide +kernel
theorem dX4_tryWay_88 : decode cX4_tryWay 88 = .ok (.aload_n 0, 1) := by decide +kernel
theorem dX4_tryWay_89 : decode cX4_tryWay 89 = .ok (.getfield 18, 3) := by decide +kernel
theorem dX4_tryWay_92 : decode cX4_tryWay 92 = .ok (.iload 7, 2) := by decide +kernel
theorem dX4_tryWay_94 : decode cX4_tryWay 94 = .ok (.dup2, 1) := by decide +kernel
theorem dX4_tryWay_95 : decode cX4_tryWay 95 = .ok (.iaload, 1) := by decide +kernel
theorem dX4_tryWay_96 : decode cX4_tryWay 96 = .ok (.iconst 1, 1) := by decide +kernel
theorem dX4_tryWay_97 : decode cX4_tryWay 97 = .ok (.iload 6, 2) := by decide +kernel
theorem dX4_tryWay_99 : decode cX4_tryWay 99 = .ok (.ishl, 1) := by decide +kernel
theorem dX4_tryWay_100 : decode cX4_tryWay 100 = .ok (.ior, 1) := by decide +kernel
theorem dX4_tryWay_101 : decode cX4_tryWay 101 = .ok (.iastore, 1) := by decide +kernel
theorem dX4_tryWay_102 : decode cX4_tryWay 102 = .ok (.iinc 5 1, 3) := by decide +kernel
theorem dX4_tryWay_105 : decode cX4_tryWay 105 = .ok (.iinc 6 (-1), 3) := by decide +kernel
theorem dX4_tryWay_108 : decode cX4_tryWay 108 = .ok (.goto (-63), 3) := by decide +kernel
theorem dX4_tryWay_111 : decode cX4_tryWay 111 = .ok (.iload 5, 2) := by decide +kernel
theorem dX4_tryWay_113 : decode cX4_tryWay 113 = .ok (.ireturn, 1) := by decide +kernel
theorem dX5_init_0 : decode cX5_init 0 = .ok (.aload_n 0, 1) := by decide +kernel
theorem dX5_init_1 : decode cX5_init 1 = .ok (.invokespecial 3, 3) := by decide +kernel
theorem dX5_init_4 : decode cX5_init 4 = .ok (.aload_n 0, 1) := by decide +kernel
theorem dX5_init_5 : decode cX5_init 5 = .ok (.bipush 100, 2) := by decide +kernel
theorem dX5_init_7 : decode cX5_init 7 = .ok (.newarray .int, 2) := by decide +kernel
theorem dX5_init_9 : decode cX5_init 9 = .ok (.putfield 9, 3) := by decide +kernel
theorem dX5_init_12 : decode cX5_init 12 = .ok (.return_, 1) := by decide +kernel
theorem dX5_append_0 : decode cX5_append 0 = .ok (.aload_n 0, 1) := by decide +kernel
theorem dX5_append_1 : decode cX5_append 1 = .ok (.getfield 15, 3) := by decide +kernel
theorem dX5_append_4 : decode cX5_append 4 = .ok (.bipush 100, 2) := by decide +kernel
theorem dX5_append_6 : decode cX5_append 6 = .ok (.if_icmp .lt 5, 3) := by decide +kernel
theorem dX5_append_9 : decode cX5_append 9 = .ok (.iconst 0, 1) := by decide +kernel
theorem dX5_append_10 : decode cX5_append 10 = .ok (.ireturn, 1) := by decide +kernel
theorem dX5_append_11 : decode cX5_append 11 = .ok (.aload_n 0, 1) := by decide +kernel
theorem dX5_append_12 : decode cX5_append 12 = .ok (.getfield 9, 3) := by decide +kernel
theorem dX5_append_15 : decode cX5_append 15 = .ok (.aload_n 0, 1) := by decide +kernel
theorem dX5_append_16 : decode cX5_append 16 = .ok (.getfield 15, 3) := by decide +kernel
theorem dX5_append_19 : decode cX5_append 19 = .ok (.iload_n 1, 1) := by decide +kernel
theorem dX5_append_20 : decode cX5_append 20 = .ok (.iastore, 1) := by decide +kernel
theorem dX5_append_21 : decode cX5_append 21 = .ok (.aload_n 0, 1) := by decide +kernel
theorem dX5_append_22 : decode cX5_append 22 = .ok (.dup, 1) := by decide +kernel
theorem dX5_append_23 : decode cX5_append 23 = .ok (.getfield 15, 3) := by decide +kernel
theorem dX5_append_26 : decode cX5_append 26 = .ok (.iconst 1, 1) := by decide +kernel
theorem dX5_append_27 : decode cX5_append 27 = .ok (.iadd, 1) := by decide +kernel
theorem dX5_append_28 : decode cX5_append 28 = .ok (.putfield 15, 3) := by decide +kernel
theorem dX5_append_31 : decode cX5_append 31 = .ok (.iconst 1, 1) := by decide +kernel
theorem dX5_append_32 : decode cX5_append 32 = .ok (.ireturn, 1) := by decide +kernel
theorem dX5_readInto_0 : decode cX5_readInto 0 = .ok (.aload_n 0, 1) := by decide +kernel
theorem dX5_readInto_1 : decode cX5_readInto 1 = .ok (.iconst 0, 1) := by decide +kernel
theorem dX5_readInto_2 : decode cX5_readInto 2 = .ok (.putfield 19, 3) := by decide +kernel
theorem dX5_readInto_5 : decode cX5_readInto 5 = .ok (.aload_n 0, 1) := by decide +kernel
theorem dX5_readInto_6 : decode cX5_readInto 6 = .ok (.iconst 0, 1) := by decide +kernel
theorem dX5_readInto_7 : decode cX5_readInto 7 = .ok (.putfield 22, 3) := by decide +kernel
theorem dX5_readInto_10 : decode cX5_readInto 10 = .ok (.aload_n 1, 1) := by decide +kernel
theorem dX5_readInto_11 : decode cX5_readInto 11 = .ok (.invokevirtual 25, 3) := by decide +kernel
theorem dX5_readInto_14 : decode cX5_readInto 14 = .ok (.aload_n 0, 1) := by decide +kernel
theorem dX5_readInto_15 : decode cX5_readInto 15 = .ok (.aload_n 1, 1) := by decide +kernel
theorem dX5_readInto_16 : decode cX5_readInto 16 = .ok (.invokevirtual 30, 3) := by decide +kernel
theorem dX5_readInto_19 : decode cX5_readInto 19 = .ok (.aload_n 0, 1) := by decide +kernel
theorem dX5_readInto_20 : decode cX5_readInto 20 = .ok (.aload_n 1, 1) := by decide +kernel
theorem dX5_readInto_21 : decode cX5_readInto 21 = .ok (.invokevirtual 34, 3) := by decide +kernel
theorem dX5_readInto_24 : decode cX5_readInto 24 = .ok (.aload_n 0, 1) := by decide +kernel
theorem dX5_readInto_25 : decode cX5_readInto 25 = .ok (.aload_n 1, 1) := by decide +kernel
theorem dX5_readInto_26 : decode cX5_readInto 26 = .ok (.invokevirtual 37, 3) := by decide +kernel
theorem dX5_readInto_29 : decode cX5_readInto 29 = .ok (.aload_n 0, 1) := by decide +kernel
theorem dX5_readInto_30 : decode cX5_readInto 30 = .ok (.getfield 19, 3) := by decide +kernel
theorem dX5_readInto_33 : decode cX5_readInto 33 = .ok (.aload_n 0, 1) := by decide +kernel
theorem dX5_readInto_34 : decode cX5_readInto 34 = .ok (.getfield 15, 3) := by decide +kernel
theorem dX5_readInto_37 : decode cX5_readInto 37 = .ok (.if_icmp .ge 12, 3) := by decide +kernel
theorem dX5_readInto_40 : decode cX5_readInto 40 = .ok (.aload_n 0, 1) := by decide +kernel
theorem dX5_readInto_41 : decode cX5_readInto 41 = .ok (.iconst 1, 1) := by decide +kernel
theorem dX5_readInto_42 : decode cX5_readInto 42 = .ok (.aload_n 0, 1) := by decide +kernel
theorem dX5_readInto_43 : decode cX5_readInto 43 = .ok (.getfield 19, 3) := by decide +kernel
theorem dX5_readInto_46 : decode cX5_readInto 46 = .ok (.invokevirtual 40, 3) := by decide +kernel
theorem dX5_readInto_49 : decode cX5_readInto 49 = .ok (.aload_n 0, 1) := by decide +kernel
theorem dX5_readInto_50 : decode cX5_readInto 50 = .ok (.iconst 0, 1) := by decide +kernel
theorem dX5_readInto_51 : decode cX5_readInto 51 = .ok (.putfield 15, 3) := by decide +kernel
theorem dX5_readInto_54 : decode cX5_readInto 54 = .ok (.return_, 1) := by decide +kernel
theorem dX5_readLaw_0 : decode cX5_readLaw 0 = .ok (.aload_n 0, 1) := by decide +kernel
theorem dX5_readLaw_1 : decode cX5_readLaw 1 = .ok (.bipush 108, 2) := by decide +kernel
theorem dX5_readLaw_3 : decode cX5_readLaw 3 = .ok (.invokevirtual 44, 3) := by decide +kernel
theorem dX5_readLaw_6 : decode cX5_readLaw 6 = .ok (.aload_n 1, 1) := by decide +kernel
theorem dX5_readLaw_7 : decode cX5_readLaw 7 = .ok (.aload_n 0, 1) := by decide +kernel
theorem dX5_readLaw_8 : decode cX5_readLaw 8 = .ok (.bipush 20, 2) := by decide +kernel
theorem dX5_readLaw_10 : decode cX5_readLaw 10 = .ok (.invokevirtual 48, 3) := by decide +kernel
theorem dX5_readLaw_13 : decode cX5_readLaw 13 = .ok (.putfield 52, 3) := by decide +kernel
theorem dX5_readLaw_16 : decode cX5_readLaw 16 = .ok (.aload_n 0, 1) := by decide +kernel
theorem dX5_readLaw_17 : decode cX5_readLaw 17 = .ok (.bipush 44, 2) := by decide +kernel
theorem dX5_readLaw_19 : decode cX5_readLaw 19 = .ok (.invokevirtual 44, 3) := by decide +kernel
theorem dX5_readLaw_22 : decode cX5_readLaw 22 = .ok (.aload_n 1, 1) := by decide +kernel
theorem dX5_readLaw_23 : decode cX5_readLaw 23 = .ok (.aload_n 0, 1) := by decide +kernel
theorem dX5_readLaw_24 : decode cX5_readLaw 24 = .ok (.bipush 6, 2) := by decide +kernel
theorem dX5_readLaw_26 : decode cX5_readLaw 26 = .ok (.invokevirtual 48, 3) := by decide +kernel
theorem dX5_readLaw_29 : decode cX5_readLaw 29 = .ok (.putfield 55, 3) := by decide +kernel
theorem dX5_readLaw_32 : decode cX5_readLaw 32 = .ok (.aload_n 0, 1) := by decide +kernel
theorem dX5_readLaw_33 : decode cX5_readLaw 33 = .ok (.bipush 59, 2) := by decide +kernel
theorem dX5_readLaw_35 : decode cX5_readLaw 35 = .ok (.invokevirtual 44, 3) := by decide +kernel
theorem dX5_readLaw_38 : decode cX5_readLaw 38 = .ok (.return_, 1) := by decide +kernel
theorem dX5_readClients_0 : decode cX5_readClients 0 = .ok (.aload_n 0, 1) := by decide +kernel
theorem dX5_readClients_1 : decode cX5_readClients 1 = .ok (.aload_n 1, 1) := by decide +kernel
theorem dX5_readClients_2 : decode cX5_readClients 2 = .ok (.invokevirtual 58, 3) := by decide +kernel
theorem dX5_readClients_5 : decode cX5_readClients 5 = .ok (.iconst 0, 1) := by decide +kernel
theorem dX5_readClients_6 : decode cX5_readClients 6 = .ok (.istore_n 2, 1) := by decide +kernel
theorem dX5_readClients_7 : decode cX5_readClients 7 = .ok (.iload_n 2, 1) := by decide +kernel
theorem dX5_readClients_8 : decode cX5_readClients 8 = .ok (.iconst 5, 1) := by decide +kernel
theorem dX5_readClients_9 : decode cX5_readClients 9 = .ok (.if_icmp .ge 23, 3) := by decide +kernel
theorem dX5_readClients_12 : decode cX5_readClients 12 = .ok (.aload_n 0, 1) := by decide +kernel
theorem dX5_readClients_13 : decode cX5_readClients 13 = .ok (.invokevirtual 61, 3) := by decide +kernel
theorem dX5_readClients_16 : decode cX5_readClients 16 = .ok (.bipush 119, 2) := by decide +kernel
theorem dX5_readClients_18 : decode cX5_readClients 18 = .ok (.if_icmp .ne 14, 3) := by decide +kernel
theorem dX5_readClients_21 : decode cX5_readClients 21 = .ok (.aload_n 0, 1) := by decide +kernel
theorem dX5_readClients_22 : decode cX5_readClients 22 = .ok (.aload_n 1, 1) := by decide +kernel
theorem dX5_readClients_23 : decode cX5_readClients 23 = .ok (.invokevirtual 58, 3) := by decide +kernel
theorem dX5_readClients_26 : decode cX5_readClients 26 = .ok (.iinc 2 1, 3) := by decide +kernel
theorem dX5_readClients_29 : decode cX5_readClients 29 = .ok (.goto (-22), 3) := by decide +kernel
theorem dX5_readClients_32 : decode cX5_readClients 32 = .ok (.return_, 1) := by decide +kernel
theorem dX5_readClient_0 : decode cX5_readClient 0 = .ok (.aload_n 1, 1) := by decide +kernel
theorem dX5_readClient_1 : decode cX5_readClient 1 = .ok (.getfield 65, 3) := by decide +kernel
theorem dX5_readClient_4 : decode cX5_readClient 4 = .ok (.istore_n 2, 1) := by decide +kernel
theorem dX5_readClient_5 : decode cX5_readClient 5 = .ok (.iload_n 2, 1) := by decide +kernel
theorem dX5_readClient_6 : decode cX5_readClient 6 = .ok (.iconst 5, 1) := by decide +kernel
theorem dX5_readClient_7 : decode cX5_readClient 7 = .ok (.if_icmp .lt 13, 3) := by decide +kernel
theorem dX5_readClient_10 : decode cX5_readClient 10 = .ok (.aload_n 0, 1) := by decide +kernel
theorem dX5_readClient_11 : decode cX5_readClient 11 = .ok (.iconst 3, 1) := by decide +kernel
theorem dX5_readClient_12 : decode cX5_readClient 12 = .ok (.aload_n 0, 1) := by decide +kernel
theorem dX5_readClient_13 : decode cX5_readClient 13 = .ok (.getfield 19, 3) := by decide +kernel
theorem dX5_readClient_16 : decode cX5_readClient 16 = .ok (.invokevirtual 40, 3) := by decide +kernel
theorem dX5_readClient_19 : decode cX5_readClient 19 = .ok (.return_, 1) := by decide +kernel
theorem dX5_readClient_20 : decode cX5_readClient 20 = .ok (.aload_n 0, 1) := by decide +kernel
theorem dX5_readClient_21 : decode cX5_readClient 21 = .ok (.bipush 119, 2) := by decide +kernel
theorem dX5_readClient_23 : decode cX5_readClient 23 = .ok (.invokevirtual 44, 3) := by decide +kernel
theorem dX5_readClient_26 : decode cX5_readClient 26 = .ok (.aload_n 1, 1) := by decide +kernel
theorem dX5_readClient_27 : decode cX5_readClient 27 = .ok (.getfield 68, 3) := by decide +kernel
theorem dX5_readClient_30 : decode cX5_readClient 30 = .ok (.iload_n 2, 1) := by decide +kernel
theorem dX5_readClient_31 : decode cX5_readClient 31 = .ok (.aload_n 0, 1) := by decide +kernel
theorem dX5_readClient_32 : decode cX5_readClient 32 = .ok (.bipush 40, 2) := by decide +kernel
theorem dX5_readClient_34 : decode cX5_readClient 34 = .ok (.invokevirtual 48, 3) := by decide +kernel
theorem dX5_readClient_37 : decode cX5_readClient 37 = .ok (.iastore, 1) := by decide +kernel
theorem dX5_readClient_38 : decode cX5_readClient 38 = .ok (.aload_n 0, 1) := by decide +kernel
theorem dX5_readClient_39 : decode cX5_readClient 39 = .ok (.bipush 44, 2) := by decide +kernel
theorem dX5_readClient_41 : decode cX5_readClient 41 = .ok (.invokevirtual 44, 3) := by decide +kernel
theorem dX5_readClient_44 : decode cX5_readClient 44 = .ok (.aload_n 1, 1) := by decide +kernel
theorem dX5_readClient_45 : decode cX5_readClient 45 = .ok (.getfield 71, 3) := by decide +kernel
theorem dX5_readClient_48 : decode cX5_readClient 48 = .ok (.iload_n 2, 1) := by decide +kernel
theorem dX5_readClient_49 : decode cX5_readClient 49 = .ok (.aload_n 0, 1) := by decide +kernel
theorem dX5_readClient_50 : decode cX5_readClient 50 = .ok (.iconst 5, 1) := by decide +kernel
theorem dX5_readClient_51 : decode cX5_readClient 51 = .ok (.invokevirtual 48, 3) := by decide +kernel
theorem dX5_readClient_54 : decode cX5_readClient 54 = .ok (.iastore, 1) := by decide +kernel
theorem dX5_readClient_55 : decode cX5_readClient 55 = .ok (.aload_n 0, 1) := by decide +kernel
theorem dX5_readClient_56 : decode cX5_readClient 56 = .ok (.bipush 59, 2) := by decide +kernel
theorem dX5_readClient_58 : decode cX5_readClient 58 = .ok (.invokevirtual 44, 3) := by decide +kernel
theorem dX5_readClient_61 : decode cX5_readClient 61 = .ok (.aload_n 1, 1) := by decide +kernel
theorem dX5_readClient_62 : decode cX5_readClient 62 = .ok (.iload_n 2, 1) := by decide +kernel
theorem dX5_readClient_63 : decode cX5_readClient 63 = .ok (.iconst 1, 1) := by decide +kernel
theorem dX5_readClient_64 : decode cX5_readClient 64 = .ok (.iadd, 1) := by decide +kernel
theorem dX5_readClient_65 : decode cX5_readClient 65 = .ok (.putfield 65, 3) := by decide +kernel
theorem dX5_readClient_68 : decode cX5_readClient 68 = .ok (.return_, 1) := by decide +kernel
theorem dX5_readWakers_0 : decode cX5_readWakers 0 = .ok (.iconst 0, 1) := by decide +kernel
theorem dX5_readWakers_1 : decode cX5_readWakers 1 = .ok (.istore_n 2, 1) := by decide +kernel
theorem dX5_readWakers_2 : decode cX5_readWakers 2 = .ok (.iload_n 2, 1) := by decide +kernel
theorem dX5_readWakers_3 : decode cX5_readWakers 3 = .ok (.iconst 4, 1) := by decide +kernel
theorem dX5_readWakers_4 : decode cX5_readWakers 4 = .ok (.if_icmp .gt 24, 3) := by decide +kernel
theorem dX5_readWakers_7 : decode cX5_readWakers 7 = .ok (.aload_n 0, 1) := by decide +kernel
theorem dX5_readWakers_8 : decode cX5_readWakers 8 = .ok (.invokevirtual 61, 3) := by decide +kernel
theorem dX5_readWakers_11 : decode cX5_readWakers 11 = .ok (.invokestatic 74, 3) := by decide +kernel
theorem dX5_readWakers_14 : decode cX5_readWakers 14 = .ok (.ifCond .eq 14, 3) := by decide +kernel
theorem dX5_readWakers_17 : decode cX5_readWakers 17 = .ok (.aload_n 0, 1) := by decide +kernel
theorem dX5_readWakers_18 : decode cX5_readWakers 18 = .ok (.aload_n 1, 1) := by decide +kernel
theorem dX5_readWakers_19 : decode cX5_readWakers 19 = .ok (.invokevirtual 77, 3) := by decide +kernel
theorem dX5_readWakers_22 : decode cX5_readWakers 22 = .ok (.iinc 2 1, 3) := by decide +kernel
theorem dX5_readWakers_25 : decode cX5_readWakers 25 = .ok (.goto (-23), 3) := by decide +kernel
theorem dX5_readWakers_28 : decode cX5_readWakers 28 = .ok (.return_, 1) := by decide +kernel
theorem dX5_readWaker_0 : decode cX5_readWaker 0 = .ok (.aload_n 1, 1) := by decide +kernel
theorem dX5_readWaker_1 : decode cX5_readWaker 1 = .ok (.getfield 80, 3) := by decide +kernel
theorem dX5_readWaker_4 : decode cX5_readWaker 4 = .ok (.istore_n 2, 1) := by decide +kernel
theorem dX5_readWaker_5 : decode cX5_readWaker 5 = .ok (.iload_n 2, 1) := by decide +kernel
theorem dX5_readWaker_6 : decode cX5_readWaker 6 = .ok (.iconst 4, 1) := by decide +kernel
theorem dX5_readWaker_7 : decode cX5_readWaker 7 = .ok (.if_icmp .lt 13, 3) := by decide +kernel
theorem dX5_readWaker_10 : decode cX5_readWaker 10 = .ok (.aload_n 0, 1) := by decide +kernel
theorem dX5_readWaker_11 : decode cX5_readWaker 11 = .ok (.iconst 3, 1) := by decide +kernel
theorem dX5_readWaker_12 : decode cX5_readWaker 12 = .ok (.aload_n 0, 1) := by decide +kernel
theorem dX5_readWaker_13 : decode cX5_readWaker 13 = .ok (.getfield 19, 3) := by decide +kernel
theorem dX5_readWaker_16 : decode cX5_readWaker 16 = .ok (.invokevirtual 40, 3) := by decide +kernel
theorem dX5_readWaker_19 : decode cX5_readWaker 19 = .ok (.return_, 1) := by decide +kernel
theorem dX5_readWaker_20 : decode cX5_readWaker 20 = .ok (.aload_n 1, 1) := by decide +kernel
theorem dX5_readWaker_21 : decode cX5_readWaker 21 = .ok (.getfield 83, 3) := by decide +kernel
theorem dX5_readWaker_24 : decode cX5_readWaker 24 = .ok (.iload_n 2, 1) := by decide +kernel
theorem dX5_readWaker_25 : decode cX5_readWaker 25 = .ok (.aload_n 0, 1) := by decide +kernel
theorem dX5_readWaker_26 : decode cX5_readWaker 26 = .ok (.invokevirtual 61, 3) := by decide +kernel
theorem dX5_readWaker_29 : decode cX5_readWaker 29 = .ok (.invokestatic 74, 3) := by decide +kernel
theorem dX5_readWaker_32 : decode cX5_readWaker 32 = .ok (.iastore, 1) := by decide +kernel
theorem dX5_readWaker_33 : decode cX5_readWaker 33 = .ok (.aload_n 0, 1) := by decide +kernel
theorem dX5_readWaker_34 : decode cX5_readWaker 34 = .ok (.dup, 1) := by decide +kernel
theorem dX5_readWaker_35 : decode cX5_readWaker 35 = .ok (.getfield 19, 3) := by decide +kernel
theorem dX5_readWaker_38 : decode cX5_readWaker 38 = .ok (.iconst 1, 1) := by decide +kernel
theorem dX5_readWaker_39 : decode cX5_readWaker 39 = .ok (.iadd, 1) := by decide +kernel
theorem dX5_readWaker_40 : decode cX5_readWaker 40 = .ok (.putfield 19, 3) := by decide +kernel
theorem dX5_readWaker_43 : decode cX5_readWaker 43 = .ok (.aload_n 1, 1) := by decide +kernel
theorem dX5_readWaker_44 : decode cX5_readWaker 44 = .ok (.getfield 86, 3) := by decide +kernel
theorem dX5_readWaker_47 : decode cX5_readWaker 47 = .ok (.iload_n 2, 1) := by decide +kernel
theorem dX5_readWaker_48 : decode cX5_readWaker 48 = .ok (.aload_n 0, 1) := by decide +kernel
theorem dX5_readWaker_49 : decode cX5_readWaker 49 = .ok (.bipush 9, 2) := by decide +kernel
theorem dX5_readWaker_51 : decode cX5_readWaker 51 = .ok (.invokevirtual 48, 3) := by decide +kernel
theorem dX5_readWaker_54 : decode cX5_readWaker 54 = .ok (.iastore, 1) := by decide +kernel
theorem dX5_readWaker_55 : decode cX5_readWaker 55 = .ok (.aload_n 0, 1) := by decide +kernel
theorem dX5_readWaker_56 : decode cX5_readWaker 56 = .ok (.bipush 44, 2) := by decide +kernel
theorem dX5_readWaker_58 : decode cX5_readWaker 58 = .ok (.invokevirtual 44, 3) := by decide +kernel
theorem dX5_readWaker_61 : decode cX5_readWaker 61 = .ok (.aload_n 1, 1) := by decide +kernel
theorem dX5_readWaker_62 : decode cX5_readWaker 62 = .ok (.getfield 89, 3) := by decide +kernel
theorem dX5_readWaker_65 : decode cX5_readWaker 65 = .ok (.iload_n 2, 1) := by decide +kernel
theorem dX5_readWaker_66 : decode cX5_readWaker 66 = .ok (.aload_n 0, 1) := by decide +kernel
theorem dX5_readWaker_67 : decode cX5_readWaker 67 = .ok (.iconst 5, 1) := by decide +kernel
theorem dX5_readWaker_68 : decode cX5_readWaker 68 = .ok (.invokevirtual 48, 3) := by decide +kernel
theorem dX5_readWaker_71 : decode cX5_readWaker 71 = .ok (.iastore, 1) := by decide +kernel
theorem dX5_readWaker_72 : decode cX5_readWaker 72 = .ok (.aload_n 0, 1) := by decide +kernel
theorem dX5_readWaker_73 : decode cX5_readWaker 73 = .ok (.bipush 44, 2) := by decide +kernel
theorem dX5_readWaker_75 : decode cX5_readWaker 75 = .ok (.invokevirtual 44, 3) := by decide +kernel
theorem dX5_readWaker_78 : decode cX5_readWaker 78 = .ok (.aload_n 1, 1) := by decide +kernel
theorem dX5_readWaker_79 : decode cX5_readWaker 79 = .ok (.getfield 92, 3) := by decide +kernel
theorem dX5_readWaker_82 : decode cX5_readWaker 82 = .ok (.iload_n 2, 1) := by decide +kernel
theorem dX5_readWaker_83 : decode cX5_readWaker 83 = .ok (.aload_n 0, 1) := by decide +kernel
theorem dX5_readWaker_84 : decode cX5_readWaker 84 = .ok (.aload_n 1, 1) := by decide +kernel
theorem dX5_readWaker_85 : decode cX5_readWaker 85 = .ok (.invokevirtual 95, 3) := by decide +kernel
theorem dX5_readWaker_88 : decode cX5_readWaker 88 = .ok (.iastore, 1) := by decide +kernel
theorem dX5_readWaker_89 : decode cX5_readWaker 89 = .ok (.aload_n 0, 1) := by decide +kernel
theorem dX5_readWaker_90 : decode cX5_readWaker 90 = .ok (.bipush 59, 2) := by decide +kernel
theorem dX5_readWaker_92 : decode cX5_readWaker 92 = .ok (.invokevirtual 44, 3) := by decide +kernel
theorem dX5_readWaker_95 : decode cX5_readWaker 95 = .ok (.aload_n 1, 1) := by decide +kernel
theorem dX5_readWaker_96 : decode cX5_readWaker 96 = .ok (.getfield 99, 3) := by decide +kernel
theorem dX5_readWaker_99 : decode cX5_readWaker 99 = .ok (.iload_n 2, 1) := by decide +kernel
theorem dX5_readWaker_100 : decode cX5_readWaker 100 = .ok (.iconst 0, 1) := by decide +kernel
theorem dX5_readWaker_101 : decode cX5_readWaker 101 = .ok (.iastore, 1) := by decide +kernel
theorem dX5_readWaker_102 : decode cX5_readWaker 102 = .ok (.aload_n 1, 1) := by decide +kernel
theorem dX5_readWaker_103 : decode cX5_readWaker 103 = .ok (.iload_n 2, 1) := by decide +kernel
theorem dX5_readWaker_104 : decode cX5_readWaker 104 = .ok (.iconst 1, 1) := by decide +kernel
theorem dX5_readWaker_105 : decode cX5_readWaker 105 = .ok (.iadd, 1) := by decide +kernel
theorem dX5_readWaker_106 : decode cX5_readWaker 106 = .ok (.putfield 80, 3) := by decide +kernel
theorem dX5_readWaker_109 : decode cX5_readWaker 109 = .ok (.return_, 1) := by decide +kernel
theorem dX5_kindTold_0 : decode cX5_kindTold 0 = .ok (.iload_n 0, 1) := by decide +kernel
theorem dX5_kindTold_1 : decode cX5_kindTold 1 = .ok (.tableswitch 77 99 111 #[69, 77, 77, 77, 73, 77, 77, 77, 77, 77, 71, 75, 67], 67) := by decide +kernel
theorem dX5_kindTold_68 : decode cX5_kindTold 68 = .ok (.iconst 1, 1) := by decide +kernel
theorem dX5_kindTold_69 : decode cX5_kindTold 69 = .ok (.ireturn, 1) := by decide +kernel
theorem dX5_kindTold_70 : decode cX5_kindTold 70 = .ok (.iconst 2, 1) := by decide +kernel
theorem dX5_kindTold_71 : decode cX5_kindTold 71 = .ok (.ireturn, 1) := by decide +kernel
theorem dX5_kindTold_72 : decode cX5_kindTold 72 = .ok (.iconst 3, 1) := by decide +kernel
theorem dX5_kindTold_73 : decode cX5_kindTold 73 = .ok (.ireturn, 1) := by decide +kernel
theorem dX5_kindTold_74 : decode cX5_kindTold 74 = .ok (.iconst 4, 1) := by decide +kernel
theorem dX5_kindTold_75 : decode cX5_kindTold 75 = .ok (.ireturn, 1) := by decide +kernel
theorem dX5_kindTold_76 : decode cX5_kindTold 76 = .ok (.iconst 5, 1) := by decide +kernel
theorem dX5_kindTold_77 : decode cX5_kindTold 77 = .ok (.ireturn, 1) := by decide +kernel
theorem dX5_kindTold_78 : decode cX5_kindTold 78 = .ok (.iconst 0, 1) := by decide +kernel
theorem dX5_kindTold_79 : decode cX5_kindTold 79 = .ok (.ireturn, 1) := by decide +kernel
theorem dX5_hirer_0 : decode cX5_hirer 0 = .ok (.aload_n 0, 1) := by decide +kernel
theorem dX5_hirer_1 : decode cX5_hirer 1 = .ok (.getfield 19, 3) := by decide +kernel
theorem dX5_hirer_4 : decode cX5_hirer 4 = .ok (.istore_n 2, 1) := by decide +kernel
theorem dX5_hirer_5 : decode cX5_hirer 5 = .ok (.aload_n 0, 1) := by decide +kernel
theorem dX5_hirer_6 : decode cX5_hirer 6 = .ok (.iconst 5, 1) := by decide +kernel
theorem dX5_hirer_7 : decode cX5_hirer 7 = .ok (.invokevirtual 48, 3) := by decide +kernel
theorem dX5_hirer_10 : decode cX5_hirer 10 = .ok (.istore_n 3, 1) := by decide +kernel
theorem dX5_hirer_11 : decode cX5_hirer 11 = .ok (.iload_n 3, 1) := by decide +kernel
theorem dX5_hirer_12 : decode cX5_hirer 12 = .ok (.iconst 5, 1) := by decide +kernel
theorem dX5_hirer_13 : decode cX5_hirer 13 = .ok (.if_icmp .eq 17, 3) := by decide +kernel
theorem dX5_hirer_16 : decode cX5_hirer 16 = .ok (.aload_n 1, 1) := by decide +kernel
theorem dX5_hirer_17 : decode cX5_hirer 17 = .ok (.iload_n 3, 1) := by decide +kernel
theorem dX5_hirer_18 : decode cX5_hirer 18 = .ok (.invokevirtual 102, 3) := by decide +kernel
theorem dX5_hirer_21 : decode cX5_hirer 21 = .ok (.ifCond .ne 9, 3) := by decide +kernel
theorem dX5_hirer_24 : decode cX5_hirer 24 = .ok (.aload_n 0, 1) := by decide +kernel
theorem dX5_hirer_25 : decode cX5_hirer 25 = .ok (.iconst 2, 1) := by decide +kernel
theorem dX5_hirer_26 : decode cX5_hirer 26 = .ok (.iload_n 2, 1) := by decide +kernel
theorem dX5_hirer_27 : decode cX5_hirer 27 = .ok (.invokevirtual 40, 3) := by decide +kernel
theorem dX5_hirer_30 : decode cX5_hirer 30 = .ok (.iload_n 3, 1) := by decide +kernel
theorem dX5_hirer_31 : decode cX5_hirer 31 = .ok (.ireturn, 1) := by decide +kernel
theorem dX5_number_0 : decode cX5_number 0 = .ok (.aload_n 0, 1) := by decide +kernel
theorem dX5_number_1 : decode cX5_number 1 = .ok (.getfield 19, 3) := by decide +kernel
theorem dX5_number_4 : decode cX5_number 4 = .ok (.istore_n 2, 1) := by decide +kernel
theorem dX5_number_5 : decode cX5_number 5 = .ok (.iconst 0, 1) := by decide +kernel
theorem dX5_number_6 : decode cX5_number 6 = .ok (.istore_n 3, 1) := by decide +kernel
theorem dX5_number_7 : decode cX5_number 7 = .ok (.iconst 0, 1) := by decide +kernel
theorem dX5_number_8 : decode cX5_number 8 = .ok (.istore 4, 2) := by decide +kernel
theorem dX5_number_10 : decode cX5_number 10 = .ok (.iload 4, 2) := by decide +kernel
theorem dX5_number_12 : decode cX5_number 12 = .ok (.bipush 100, 2) := by decide +kernel
theorem dX5_number_14 : decode cX5_number 14 = .ok (.if_icmp .ge 48, 3) := by decide +kernel
theorem dX5_number_17 : decode cX5_number 17 = .ok (.aload_n 0, 1) := by decide +kernel
theorem dX5_number_18 : decode cX5_number 18 = .ok (.invokevirtual 61, 3) := by decide +kernel
theorem dX5_number_21 : decode cX5_number 21 = .ok (.invokestatic 106, 3) := by decide +kernel
theorem dX5_number_24 : decode cX5_number 24 = .ok (.ifCond .eq 38, 3) := by decide +kernel
theorem dX5_number_27 : decode cX5_number 27 = .ok (.sipush 1000, 3) := by decide +kernel
theorem dX5_number_30 : decode cX5_number 30 = .ok (.iload_n 3, 1) := by decide +kernel
theorem dX5_number_31 : decode cX5_number 31 = .ok (.bipush 10, 2) := by decide +kernel
theorem dX5_number_33 : decode cX5_number 33 = .ok (.imul, 1) := by decide +kernel
theorem dX5_number_34 : decode cX5_number 34 = .ok (.aload_n 0, 1) := by decide +kernel
theorem dX5_number_35 : decode cX5_number 35 = .ok (.invokevirtual 61, 3) := by decide +kernel
theorem dX5_number_38 : decode cX5_number 38 = .ok (.iadd, 1) := by decide +kernel
theorem dX5_number_39 : decode cX5_number 39 = .ok (.bipush 48, 2) := by decide +kernel
theorem dX5_number_41 : decode cX5_number 41 = .ok (.isub, 1) := by decide +kernel
theorem dX5_number_42 : decode cX5_number 42 = .ok (.invokestatic 109, 3) := by decide +kernel
theorem dX5_number_45 : decode cX5_number 45 = .ok (.istore_n 3, 1) := by decide +kernel
theorem dX5_number_46 : decode cX5_number 46 = .ok (.aload_n 0, 1) := by decide +kernel
theorem dX5_number_47 : decode cX5_number 47 = .ok (.dup, 1) := by decide +kernel
theorem dX5_number_48 : decode cX5_number 48 = .ok (.getfield 19, 3) := by decide +kernel
theorem dX5_number_51 : decode cX5_number 51 = .ok (.iconst 1, 1) := by decide +kernel
theorem dX5_number_52 : decode cX5_number 52 = .ok (.iadd, 1) := by decide +kernel
theorem dX5_number_53 : decode cX5_number 53 = .ok (.putfield 19, 3) := by decide +kernel
theorem dX5_number_56 : decode cX5_number 56 = .ok (.iinc 4 1, 3) := by decide +kernel
theorem dX5_number_59 : decode cX5_number 59 = .ok (.goto (-49), 3) := by decide +kernel
theorem dX5_number_62 : decode cX5_number 62 = .ok (.aload_n 0, 1) := by decide +kernel
theorem dX5_number_63 : decode cX5_number 63 = .ok (.getfield 19, 3) := by decide +kernel
theorem dX5_number_66 : decode cX5_number 66 = .ok (.iload_n 2, 1) := by decide +kernel
theorem dX5_number_67 : decode cX5_number 67 = .ok (.if_icmp .eq 13, 3) := by decide +kernel
theorem dX5_number_70 : decode cX5_number 70 = .ok (.aload_n 0, 1) := by decide +kernel
theorem dX5_number_71 : decode cX5_number 71 = .ok (.getfield 19, 3) := by decide +kernel
theorem dX5_number_74 : decode cX5_number 74 = .ok (.iload_n 2, 1) := by decide +kernel
theorem dX5_number_75 : decode cX5_number 75 = .ok (.isub, 1) := by decide +kernel
theorem dX5_number_76 : decode cX5_number 76 = .ok (.iconst 2, 1) := by decide +kernel
theorem dX5_number_77 : decode cX5_number 77 = .ok (.if_icmp .le 12, 3) := by decide +kernel
theorem dX5_number_80 : decode cX5_number 80 = .ok (.aload_n 0, 1) := by decide +kernel
theorem dX5_number_81 : decode cX5_number 81 = .ok (.iconst 1, 1) := by decide +kernel
theorem dX5_number_82 : decode cX5_number 82 = .ok (.iload_n 2, 1) := by decide +kernel
theorem dX5_number_83 : decode cX5_number 83 = .ok (.invokevirtual 40, 3) := by decide +kernel
theorem dX5_number_86 : decode cX5_number 86 = .ok (.goto 14, 3) := by decide +kernel
theorem dX5_number_89 : decode cX5_number 89 = .ok (.iload_n 3, 1) := by decide +kernel
theorem dX5_number_90 : decode cX5_number 90 = .ok (.iload_n 1, 1) := by decide +kernel
theorem dX5_number_91 : decode cX5_number 91 = .ok (.if_icmp .le 9, 3) := by decide +kernel
theorem dX5_number_94 : decode cX5_number 94 = .ok (.aload_n 0, 1) := by decide +kernel
theorem dX5_number_95 : decode cX5_number 95 = .ok (.iconst 2, 1) := by decide +kernel
theorem dX5_number_96 : decode cX5_number 96 = .ok (.iload_n 2, 1) := by decide +kernel
theorem dX5_number_97 : decode cX5_number 97 = .ok (.invokevirtual 40, 3) := by decide +kernel
theorem dX5_number_100 : decode cX5_number 100 = .ok (.iload_n 3, 1) := by decide +kernel
theorem dX5_number_101 : decode cX5_number 101 = .ok (.ireturn, 1) := by decide +kernel
theorem dX5_expect_0 : decode cX5_expect 0 = .ok (.aload_n 0, 1) := by decide +kernel
theorem dX5_expect_1 : decode cX5_expect 1 = .ok (.invokevirtual 61, 3) := by decide +kernel
theorem dX5_expect_4 : decode cX5_expect 4 = .ok (.iload_n 1, 1) := by decide +kernel
theorem dX5_expect_5 : decode cX5_expect 5 = .ok (.if_icmp .ne 16, 3) := by decide +kernel
theorem dX5_expect_8 : decode cX5_expect 8 = .ok (.aload_n 0, 1) := by decide +kernel
theorem dX5_expect_9 : decode cX5_expect 9 = .ok (.dup, 1) := by decide +kernel
theorem dX5_expect_10 : decode cX5_expect 10 = .ok (.getfield 19, 3) := by decide +kernel
theorem dX5_expect_13 : decode cX5_expect 13 = .ok (.iconst 1, 1) := by decide +kernel
theorem dX5_expect_14 : decode cX5_expect 14 = .ok (.iadd, 1) := by decide +kernel
theorem dX5_expect_15 : decode cX5_expect 15 = .ok (.putfield 19, 3) := by decide +kernel
theorem dX5_expect_18 : decode cX5_expect 18 = .ok (.goto 12, 3) := by decide +kernel
theorem dX5_expect_21 : decode cX5_expect 21 = .ok (.aload_n 0, 1) := by decide +kernel
theorem dX5_expect_22 : decode cX5_expect 22 = .ok (.iconst 1, 1) := by decide +kernel
theorem dX5_expect_23 : decode cX5_expect 23 = .ok (.aload_n 0, 1) := by decide +kernel
theorem dX5_expect_24 : decode cX5_expect 24 = .ok (.getfield 19, 3) := by decide +kernel
theorem dX5_expect_27 : decode cX5_expect 27 = .ok (.invokevirtual 40, 3) := by decide +kernel
theorem dX5_expect_30 : decode cX5_expect 30 = .ok (.return_, 1) := by decide +kernel
theorem dX5_isFigure_0 : decode cX5_isFigure 0 = .ok (.iload_n 0, 1) := by decide +kernel
theorem dX5_isFigure_1 : decode cX5_isFigure 1 = .ok (.bipush 48, 2) := by decide +kernel
theorem dX5_isFigure_3 : decode cX5_isFigure 3 = .ok (.if_icmp .lt 13, 3) := by decide +kernel
theorem dX5_isFigure_6 : decode cX5_isFigure 6 = .ok (.iload_n 0, 1) := by decide +kernel
theorem dX5_isFigure_7 : decode cX5_isFigure 7 = .ok (.bipush 57, 2) := by decide +kernel
theorem dX5_isFigure_9 : decode cX5_isFigure 9 = .ok (.if_icmp .gt 7, 3) := by decide +kernel
theorem dX5_isFigure_12 : decode cX5_isFigure 12 = .ok (.iconst 1, 1) := by decide +kernel
theorem dX5_isFigure_13 : decode cX5_isFigure 13 = .ok (.goto 4, 3) := by decide +kernel
theorem dX5_isFigure_16 : decode cX5_isFigure 16 = .ok (.iconst 0, 1) := by decide +kernel
theorem dX5_isFigure_17 : decode cX5_isFigure 17 = .ok (.ireturn, 1) := by decide +kernel
theorem dX5_next_0 : decode cX5_next 0 = .ok (.aload_n 0, 1) := by decide +kernel
theorem dX5_next_1 : decode cX5_next 1 = .ok (.getfield 22, 3) := by decide +kernel
theorem dX5_next_4 : decode cX5_next 4 = .ok (.ifCond .ne 26, 3) := by decide +kernel
theorem dX5_next_7 : decode cX5_next 7 = .ok (.aload_n 0, 1) := by decide +kernel
theorem dX5_next_8 : decode cX5_next 8 = .ok (.getfield 19, 3) := by decide +kernel
theorem dX5_next_11 : decode cX5_next 11 = .ok (.aload_n 0, 1) := by decide +kernel
theorem dX5_next_12 : decode cX5_next 12 = .ok (.getfield 15, 3) := by decide +kernel
theorem dX5_next_15 : decode cX5_next 15 = .ok (.if_icmp .ge 15, 3) := by decide +kernel
theorem dX5_next_18 : decode cX5_next 18 = .ok (.aload_n 0, 1) := by decide +kernel
theorem dX5_next_19 : decode cX5_next 19 = .ok (.getfield 9, 3) := by decide +kernel
theorem dX5_next_22 : decode cX5_next 22 = .ok (.aload_n 0, 1) := by decide +kernel
theorem dX5_next_23 : decode cX5_next 23 = .ok (.getfield 19, 3) := by decide +kernel
theorem dX5_next_26 : decode cX5_next 26 = .ok (.iaload, 1) := by decide +kernel
theorem dX5_next_27 : decode cX5_next 27 = .ok (.goto 4, 3) := by decide +kernel
theorem dX5_next_30 : decode cX5_next 30 = .ok (.iconst (-1), 1) := by decide +kernel
theorem dX5_next_31 : decode cX5_next 31 = .ok (.ireturn, 1) := by decide +kernel
theorem dX5_fail_0 : decode cX5_fail 0 = .ok (.aload_n 0, 1) := by decide +kernel
theorem dX5_fail_1 : decode cX5_fail 1 = .ok (.getfield 22, 3) := by decide +kernel
theorem dX5_fail_4 : decode cX5_fail 4 = .ok (.ifCond .ne 13, 3) := by decide +kernel
theorem dX5_fail_7 : decode cX5_fail 7 = .ok (.aload_n 0, 1) := by decide +kernel
theorem dX5_fail_8 : decode cX5_fail 8 = .ok (.iload_n 1, 1) := by decide +kernel
theorem dX5_fail_9 : decode cX5_fail 9 = .ok (.putfield 22, 3) := by decide +kernel
theorem dX5_fail_12 : decode cX5_fail 12 = .ok (.aload_n 0, 1) := by decide +kernel
theorem dX5_fail_13 : decode cX5_fail 13 = .ok (.iload_n 2, 1) := by decide +kernel
theorem dX5_fail_14 : decode cX5_fail 14 = .ok (.putfield 115, 3) := by decide +kernel
theorem dX5_fail_17 : decode cX5_fail 17 = .ok (.return_, 1) := by decide +kernel
theorem dX6_init_0 : decode cX6_init 0 = .ok (.aload_n 0, 1) := by decide +kernel
theorem dX6_init_1 : decode cX6_init 1 = .ok (.invokespecial 3, 3) := by decide +kernel
theorem dX6_init_4 : decode cX6_init 4 = .ok (.aload_n 0, 1) := by decide +kernel
theorem dX6_init_5 : decode cX6_init 5 = .ok (.bipush 8, 2) := by decide +kernel
theorem dX6_init_7 : decode cX6_init 7 = .ok (.anewarray 9, 3) := by decide +kernel
theorem dX6_init_10 : decode cX6_init 10 = .ok (.putfield 11, 3) := by decide +kernel
theorem dX6_init_13 : decode cX6_init 13 = .ok (.aload_n 0, 1) := by decide +kernel
theorem dX6_init_14 : decode cX6_init 14 = .ok (.iconst 2, 1) := by decide +kernel
theorem dX6_init_15 : decode cX6_init 15 = .ok (.anewarray 15, 3) := by decide +kernel
theorem dX6_init_18 : decode cX6_init 18 = .ok (.putfield 17, 3) := by decide +kernel
theorem dX6_init_21 : decode cX6_init 21 = .ok (.aload_n 0, 1) := by decide +kernel
theorem dX6_init_22 : decode cX6_init 22 = .ok (.new 15, 3) := by decide +kernel
theorem dX6_init_25 : decode cX6_init 25 = .ok (.dup, 1) := by decide +kernel
theorem dX6_init_26 : decode cX6_init 26 = .ok (.invokespecial 21, 3) := by decide +kernel
theorem dX6_init_29 : decode cX6_init 29 = .ok (.putfield 22, 3) := by decide +kernel
theorem dX6_init_32 : decode cX6_init 32 = .ok (.aload_n 0, 1) := by decide +kernel
theorem dX6_init_33 : decode cX6_init 33 = .ok (.new 15, 3) := by decide +kernel
theorem dX6_init_36 : decode cX6_init 36 = .ok (.dup, 1) := by decide +kernel
theorem dX6_init_37 : decode cX6_init 37 = .ok (.invokespecial 21, 3) := by decide +kernel
theorem dX6_init_40 : decode cX6_init 40 = .ok (.putfield 26, 3) := by decide +kernel
theorem dX6_init_43 : decode cX6_init 43 = .ok (.aload_n 0, 1) := by decide +kernel
theorem dX6_init_44 : decode cX6_init 44 = .ok (.new 29, 3) := by decide +kernel
theorem dX6_init_47 : decode cX6_init 47 = .ok (.dup, 1) := by decide +kernel
theorem dX6_init_48 : decode cX6_init 48 = .ok (.invokespecial 31, 3) := by decide +kernel
theorem dX6_init_51 : decode cX6_init 51 = .ok (.putfield 32, 3) := by decide +kernel
theorem dX6_init_54 : decode cX6_init 54 = .ok (.aload_n 0, 1) := by decide +kernel
theorem dX6_init_55 : decode cX6_init 55 = .ok (.new 36, 3) := by decide +kernel
theorem dX6_init_58 : decode cX6_init 58 = .ok (.dup, 1) := by decide +kernel
theorem dX6_init_59 : decode cX6_init 59 = .ok (.invokespecial 38, 3) := by decide +kernel
theorem dX6_init_62 : decode cX6_init 62 = .ok (.putfield 39, 3) := by decide +kernel
theorem dX6_init_65 : decode cX6_init 65 = .ok (.aload_n 0, 1) := by decide +kernel
theorem dX6_init_66 : decode cX6_init 66 = .ok (.new 43, 3) := by decide +kernel
theorem dX6_init_69 : decode cX6_init 69 = .ok (.dup, 1) := by decide +kernel
theorem dX6_init_70 : decode cX6_init 70 = .ok (.invokespecial 45, 3) := by decide +kernel
theorem dX6_init_73 : decode cX6_init 73 = .ok (.putfield 46, 3) := by decide +kernel
theorem dX6_init_76 : decode cX6_init 76 = .ok (.aload_n 0, 1) := by decide +kernel
theorem dX6_init_77 : decode cX6_init 77 = .ok (.new 50, 3) := by decide +kernel
theorem dX6_init_80 : decode cX6_init 80 = .ok (.dup, 1) := by decide +kernel
theorem dX6_init_81 : decode cX6_init 81 = .ok (.invokespecial 52, 3) := by decide +kernel
theorem dX6_init_84 : decode cX6_init 84 = .ok (.putfield 53, 3) := by decide +kernel
theorem dX6_init_87 : decode cX6_init 87 = .ok (.iconst 0, 1) := by decide +kernel
theorem dX6_init_88 : decode cX6_init 88 = .ok (.istore_n 1, 1) := by decide +kernel
theorem dX6_init_89 : decode cX6_init 89 = .ok (.iload_n 1, 1) := by decide +kernel
theorem dX6_init_90 : decode cX6_init 90 = .ok (.bipush 8, 2) := by decide +kernel
theorem dX6_init_92 : decode cX6_init 92 = .ok (.if_icmp .ge 22, 3) := by decide +kernel
theorem dX6_init_95 : decode cX6_init 95 = .ok (.aload_n 0, 1) := by decide +kernel
theorem dX6_init_96 : decode cX6_init 96 = .ok (.getfield 11, 3) := by decide +kernel
theorem dX6_init_99 : decode cX6_init 99 = .ok (.iload_n 1, 1) := by decide +kernel
theorem dX6_init_100 : decode cX6_init 100 = .ok (.new 9, 3) := by decide +kernel
theorem dX6_init_103 : decode cX6_init 103 = .ok (.dup, 1) := by decide +kernel
theorem dX6_init_104 : decode cX6_init 104 = .ok (.invokespecial 57, 3) := by decide +kernel
theorem dX6_init_107 : decode cX6_init 107 = .ok (.aastore, 1) := by decide +kernel
theorem dX6_init_108 : decode cX6_init 108 = .ok (.iinc 1 1, 3) := by decide +kernel
theorem dX6_init_111 : decode cX6_init 111 = .ok (.goto (-22), 3) := by decide +kernel
theorem dX6_init_114 : decode cX6_init 114 = .ok (.iconst 0, 1) := by decide +kernel
theorem dX6_init_115 : decode cX6_init 115 = .ok (.istore_n 1, 1) := by decide +kernel
theorem dX6_init_116 : decode cX6_init 116 = .ok (.iload_n 1, 1) := by decide +kernel
theorem dX6_init_117 : decode cX6_init 117 = .ok (.iconst 2, 1) := by decide +kernel
theorem dX6_init_118 : decode cX6_init 118 = .ok (.if_icmp .ge 22, 3) := by decide +kernel
theorem dX6_init_121 : decode cX6_init 121 = .ok (.aload_n 0, 1) := by decide +kernel
theorem dX6_init_122 : decode cX6_init 122 = .ok (.getfield 17, 3) := by decide +kernel
theorem dX6_init_125 : decode cX6_init 125 = .ok (.iload_n 1, 1) := by decide +kernel
theorem dX6_init_126 : decode cX6_init 126 = .ok (.new 15, 3) := by decide +kernel
theorem dX6_init_129 : decode cX6_init 129 = .ok (.dup, 1) := by decide +kernel
theorem dX6_init_130 : decode cX6_init 130 = .ok (.invokespecial 21, 3) := by decide +kernel
theorem dX6_init_133 : decode cX6_init 133 = .ok (.aastore, 1) := by decide +kernel
theorem dX6_init_134 : decode cX6_init 134 = .ok (.iinc 1 1, 3) := by decide +kernel
theorem dX6_init_137 : decode cX6_init 137 = .ok (.goto (-21), 3) := by decide +kernel
theorem dX6_init_140 : decode cX6_init 140 = .ok (.return_, 1) := by decide +kernel
theorem dX6_row_0 : decode cX6_row 0 = .ok (.iload_n 1, 1) := by decide +kernel
theorem dX6_row_1 : decode cX6_row 1 = .ok (.iconst 0, 1) := by decide +kernel
theorem dX6_row_2 : decode cX6_row 2 = .ok (.bipush 7, 2) := by decide +kernel
theorem dX6_row_4 : decode cX6_row 4 = .ok (.invokestatic 58, 3) := by decide +kernel
theorem dX6_row_7 : decode cX6_row 7 = .ok (.ifCond .eq 18, 3) := by decide +kernel
theorem dX6_row_10 : decode cX6_row 10 = .ok (.iload_n 2, 1) := by decide +kernel
theorem dX6_row_11 : decode cX6_row 11 = .ok (.iconst 0, 1) := by decide +kernel
theorem dX6_row_12 : decode cX6_row 12 = .ok (.iconst 2, 1) := by decide +kernel
theorem dX6_row_13 : decode cX6_row 13 = .ok (.invokestatic 58, 3) := by decide +kernel
theorem dX6_row_16 : decode cX6_row 16 = .ok (.ifCond .eq 9, 3) := by decide +kernel
theorem dX6_row_19 : decode cX6_row 19 = .ok (.iload_n 3, 1) := by decide +kernel
theorem dX6_row_20 : decode cX6_row 20 = .ok (.bipush 40, 2) := by decide +kernel
theorem dX6_row_22 : decode cX6_row 22 = .ok (.if_icmp .le 6, 3) := by decide +kernel
theorem dX6_row_25 : decode cX6_row 25 = .ok (.ldc 62, 2) := by decide +kernel
theorem dX6_row_27 : decode cX6_row 27 = .ok (.ireturn, 1) := by decide +kernel
theorem dX6_row_28 : decode cX6_row 28 = .ok (.iload_n 3, 1) := by decide +kernel
theorem dX6_row_29 : decode cX6_row 29 = .ok (.ifCond .ge 9, 3) := by decide +kernel
theorem dX6_row_32 : decode cX6_row 32 = .ok (.aload_n 0, 1) := by decide +kernel
theorem dX6_row_33 : decode cX6_row 33 = .ok (.iconst 4, 1) := by decide +kernel
theorem dX6_row_34 : decode cX6_row 34 = .ok (.invokevirtual 63, 3) := by decide +kernel
theorem dX6_row_37 : decode cX6_row 37 = .ok (.ireturn, 1) := by decide +kernel
theorem dX6_row_38 : decode cX6_row 38 = .ok (.aload_n 0, 1) := by decide +kernel
theorem dX6_row_39 : decode cX6_row 39 = .ok (.getfield 11, 3) := by decide +kernel
theorem dX6_row_42 : decode cX6_row 42 = .ok (.iload_n 1, 1) := by decide +kernel
theorem dX6_row_43 : decode cX6_row 43 = .ok (.aaload, 1) := by decide +kernel
theorem dX6_row_44 : decode cX6_row 44 = .ok (.iload_n 2, 1) := by decide +kernel
theorem dX6_row_45 : decode cX6_row 45 = .ok (.iload_n 3, 1) := by decide +kernel
theorem dX6_row_46 : decode cX6_row 46 = .ok (.invokevirtual 67, 3) := by decide +kernel
theorem dX6_row_49 : decode cX6_row 49 = .ok (.aload_n 0, 1) := by decide +kernel
theorem dX6_row_50 : decode cX6_row 50 = .ok (.iload_n 3, 1) := by decide +kernel
theorem dX6_row_51 : decode cX6_row 51 = .ok (.invokevirtual 71, 3) := by decide +kernel
theorem dX6_row_54 : decode cX6_row 54 = .ok (.ireturn, 1) := by decide +kernel
theorem dX6_set_0 : decode cX6_set 0 = .ok (.iload_n 1, 1) := by decide +kernel
theorem dX6_set_1 : decode cX6_set 1 = .ok (.iconst 0, 1) := by decide +kernel
theorem dX6_set_2 : decode cX6_set 2 = .ok (.bipush 7, 2) := by decide +kernel
theorem dX6_set_4 : decode cX6_set 4 = .ok (.invokestatic 58, 3) := by decide +kernel
theorem dX6_set_7 : decode cX6_set 7 = .ok (.ifCond .ne 6, 3) := by decide +kernel
theorem dX6_set_10 : decode cX6_set 10 = .ok (.ldc 62, 2) := by decide +kernel
theorem dX6_set_12 : decode cX6_set 12 = .ok (.ireturn, 1) := by decide +kernel
theorem dX6_set_13 : decode cX6_set 13 = .ok (.aload_n 0, 1) := by decide +kernel
theorem dX6_set_14 : decode cX6_set 14 = .ok (.getfield 11, 3) := by decide +kernel
theorem dX6_set_17 : decode cX6_set 17 = .ok (.iload_n 1, 1) := by decide +kernel
theorem dX6_set_18 : decode cX6_set 18 = .ok (.aaload, 1) := by decide +kernel
theorem dX6_set_19 : decode cX6_set 19 = .ok (.astore 4, 2) := by decide +kernel
theorem dX6_set_21 : decode cX6_set 21 = .ok (.aload 4, 2) := by decide +kernel
theorem dX6_set_23 : decode cX6_set 23 = .ok (.invokevirtual 74, 3) := by decide +kernel
theorem dX6_set_26 : decode cX6_set 26 = .ok (.ifCond .eq 9, 3) := by decide +kernel
theorem dX6_set_29 : decode cX6_set 29 = .ok (.aload_n 0, 1) := by decide +kernel
theorem dX6_set_30 : decode cX6_set 30 = .ok (.iconst 1, 1) := by decide +kernel
theorem dX6_set_31 : decode cX6_set 31 = .ok (.invokevirtual 63, 3) := by decide +kernel
theorem dX6_set_34 : decode cX6_set 34 = .ok (.ireturn, 1) := by decide +kernel
theorem dX6_set_35 : decode cX6_set 35 = .ok (.aload 4, 2) := by decide +kernel
theorem dX6_set_37 : decode cX6_set 37 = .ok (.iload_n 2, 1) := by decide +kernel
theorem dX6_set_38 : decode cX6_set 38 = .ok (.iconst 1, 1) := by decide +kernel
theorem dX6_set_39 : decode cX6_set 39 = .ok (.invokevirtual 78, 3) := by decide +kernel
theorem dX6_set_42 : decode cX6_set 42 = .ok (.ifCond .ne 9, 3) := by decide +kernel
theorem dX6_set_45 : decode cX6_set 45 = .ok (.aload_n 0, 1) := by decide +kernel
theorem dX6_set_46 : decode cX6_set 46 = .ok (.iconst 2, 1) := by decide +kernel
theorem dX6_set_47 : decode cX6_set 47 = .ok (.invokevirtual 63, 3) := by decide +kernel
theorem dX6_set_50 : decode cX6_set 50 = .ok (.ireturn, 1) := by decide +kernel
theorem dX6_set_51 : decode cX6_set 51 = .ok (.aload_n 0, 1) := by decide +kernel
theorem dX6_set_52 : decode cX6_set 52 = .ok (.aload 4, 2) := by decide +kernel
theorem dX6_set_54 : decode cX6_set 54 = .ok (.iload_n 2, 1) := by decide +kernel
theorem dX6_set_55 : decode cX6_set 55 = .ok (.iload_n 3, 1) := by decide +kernel
theorem dX6_set_56 : decode cX6_set 56 = .ok (.invokevirtual 82, 3) := by decide +kernel
theorem dX6_set_59 : decode cX6_set 59 = .ok (.invokevirtual 71, 3) := by decide +kernel
theorem dX6_set_62 : decode cX6_set 62 = .ok (.ireturn, 1) := by decide +kernel
theorem dX6_copy_0 : decode cX6_copy 0 = .ok (.iload_n 1, 1) := by decide +kernel
theorem dX6_copy_1 : decode cX6_copy 1 = .ok (.iconst 0, 1) := by decide +kernel
theorem dX6_copy_2 : decode cX6_copy 2 = .ok (.bipush 7, 2) := by decide +kernel
theorem dX6_copy_4 : decode cX6_copy 4 = .ok (.invokestatic 58, 3) := by decide +kernel
theorem dX6_copy_7 : decode cX6_copy 7 = .ok (.ifCond .eq 13, 3) := by decide +kernel
theorem dX6_copy_10 : decode cX6_copy 10 = .ok (.iload_n 3, 1) := by decide +kernel
theorem dX6_copy_11 : decode cX6_copy 11 = .ok (.iconst 0, 1) := by decide +kernel
theorem dX6_copy_12 : decode cX6_copy 12 = .ok (.bipush 7, 2) := by decide +kernel
theorem dX6_copy_14 : decode cX6_copy 14 = .ok (.invokestatic 58, 3) := by decide +kernel
theorem dX6_copy_17 : decode cX6_copy 17 = .ok (.ifCond .ne 6, 3) := by decide +kernel
theorem dX6_copy_20 : decode cX6_copy 20 = .ok (.ldc 62, 2) := by decide +kernel
theorem dX6_copy_22 : decode cX6_copy 22 = .ok (.ireturn, 1) := by decide +kernel
theorem dX6_copy_23 : decode cX6_copy 23 = .ok (.aload_n 0, 1) := by decide +kernel
theorem dX6_copy_24 : decode cX6_copy 24 = .ok (.getfield 11, 3) := by decide +kernel
theorem dX6_copy_27 : decode cX6_copy 27 = .ok (.iload_n 1, 1) := by decide +kernel
theorem dX6_copy_28 : decode cX6_copy 28 = .ok (.aaload, 1) := by decide +kernel
theorem dX6_copy_29 : decode cX6_copy 29 = .ok (.astore 6, 2) := by decide +kernel
theorem dX6_copy_31 : decode cX6_copy 31 = .ok (.aload_n 0, 1) := by decide +kernel
theorem dX6_copy_32 : decode cX6_copy 32 = .ok (.getfield 11, 3) := by decide +kernel
theorem dX6_copy_35 : decode cX6_copy 35 = .ok (.iload_n 3, 1) := by decide +kernel
theorem dX6_copy_36 : decode cX6_copy 36 = .ok (.aaload, 1) := by decide +kernel
theorem dX6_copy_37 : decode cX6_copy 37 = .ok (.astore 7, 2) := by decide +kernel
theorem dX6_copy_39 : decode cX6_copy 39 = .ok (.aload 6, 2) := by decide +kernel
theorem dX6_copy_41 : decode cX6_copy 41 = .ok (.invokevirtual 74, 3) := by decide +kernel
theorem dX6_copy_44 : decode cX6_copy 44 = .ok (.ifCond .ne 11, 3) := by decide +kernel
theorem dX6_copy_47 : decode cX6_copy 47 = .ok (.aload 7, 2) := by decide +kernel
theorem dX6_copy_49 : decode cX6_copy 49 = .ok (.invokevirtual 74, 3) := by decide +kernel
theorem dX6_copy_52 : decode cX6_copy 52 = .ok (.ifCond .eq 9, 3) := by decide +kernel
theorem dX6_copy_55 : decode cX6_copy 55 = .ok (.aload_n 0, 1) := by decide +kernel
theorem dX6_copy_56 : decode cX6_copy 56 = .ok (.iconst 1, 1) := by decide +kernel
theorem dX6_copy_57 : decode cX6_copy 57 = .ok (.invokevirtual 63, 3) := by decide +kernel
theorem dX6_copy_60 : decode cX6_copy 60 = .ok (.ireturn, 1) := by decide +kernel
theorem dX6_copy_61 : decode cX6_copy 61 = .ok (.aload 6, 2) := by decide +kernel
theorem dX6_copy_63 : decode cX6_copy 63 = .ok (.getfield 86, 3) := by decide +kernel
theorem dX6_copy_66 : decode cX6_copy 66 = .ok (.aload 7, 2) := by decide +kernel
theorem dX6_copy_68 : decode cX6_copy 68 = .ok (.getfield 86, 3) := by decide +kernel
theorem dX6_copy_71 : decode cX6_copy 71 = .ok (.if_icmp .eq 9, 3) := by decide +kernel
theorem dX6_copy_74 : decode cX6_copy 74 = .ok (.aload_n 0, 1) := by decide +kernel
theorem dX6_copy_75 : decode cX6_copy 75 = .ok (.iconst 5, 1) := by decide +kernel
theorem dX6_copy_76 : decode cX6_copy 76 = .ok (.invokevirtual 63, 3) := by decide +kernel
theorem dX6_copy_79 : decode cX6_copy 79 = .ok (.ireturn, 1) := by decide +kernel
theorem dX6_copy_80 : decode cX6_copy 80 = .ok (.aload 6, 2) := by decide +kernel
theorem dX6_copy_82 : decode cX6_copy 82 = .ok (.iload_n 2, 1) := by decide +kernel
theorem dX6_copy_83 : decode cX6_copy 83 = .ok (.iload 5, 2) := by decide +kernel
theorem dX6_copy_85 : decode cX6_copy 85 = .ok (.invokevirtual 78, 3) := by decide +kernel
theorem dX6_copy_88 : decode cX6_copy 88 = .ok (.ifCond .eq 15, 3) := by decide +kernel
theorem dX6_copy_91 : decode cX6_copy 91 = .ok (.aload 7, 2) := by decide +kernel
theorem dX6_copy_93 : decode cX6_copy 93 = .ok (.iload 4, 2) := by decide +kernel
theorem dX6_copy_95 : decode cX6_copy 95 = .ok (.iload 5, 2) := by decide +kernel
theorem dX6_copy_97 : decode cX6_copy 97 = .ok (.invokevirtual 78, 3) := by decide +kernel
theorem dX6_copy_100 : decode cX6_copy 100 = .ok (.ifCond .ne 9, 3) := by decide +kernel
theorem dX6_copy_103 : decode cX6_copy 103 = .ok (.aload_n 0, 1) := by decide +kernel
theorem dX6_copy_104 : decode cX6_copy 104 = .ok (.iconst 2, 1) := by decide +kernel
theorem dX6_copy_105 : decode cX6_copy 105 = .ok (.invokevirtual 63, 3) := by decide +kernel
theorem dX6_copy_108 : decode cX6_copy 108 = .ok (.ireturn, 1) := by decide +kernel
theorem dX6_copy_109 : decode cX6_copy 109 = .ok (.aload 6, 2) := by decide +kernel
theorem dX6_copy_111 : decode cX6_copy 111 = .ok (.getfield 90, 3) := by decide +kernel
theorem dX6_copy_114 : decode cX6_copy 114 = .ok (.iload_n 2, 1) := by decide +kernel
theorem dX6_copy_115 : decode cX6_copy 115 = .ok (.aload 7, 2) := by decide +kernel
theorem dX6_copy_117 : decode cX6_copy 117 = .ok (.getfield 90, 3) := by decide +kernel
theorem dX6_copy_120 : decode cX6_copy 120 = .ok (.iload 4, 2) := by decide +kernel
theorem dX6_copy_122 : decode cX6_copy 122 = .ok (.iload 5, 2) := by decide +kernel
theorem dX6_copy_124 : decode cX6_copy 124 = .ok (.invokestatic 94, 3) := by decide +kernel
theorem dX6_copy_127 : decode cX6_copy 127 = .ok (.aload_n 0, 1) := by decide +kernel
theorem dX6_copy_128 : decode cX6_copy 128 = .ok (.iload 5, 2) := by decide +kernel
theorem dX6_copy_130 : decode cX6_copy 130 = .ok (.invokevirtual 71, 3) := by decide +kernel
theorem dX6_copy_133 : decode cX6_copy 133 = .ok (.ireturn, 1) := by decide +kernel
theorem dX6_drop_0 : decode cX6_drop 0 = .ok (.iload_n 1, 1) := by decide +kernel
theorem dX6_drop_1 : decode cX6_drop 1 = .ok (.iconst 0, 1) := by decide +kernel
theorem dX6_drop_2 : decode cX6_drop 2 = .ok (.bipush 7, 2) := by decide +kernel
theorem dX6_drop_4 : decode cX6_drop 4 = .ok (.invokestatic 58, 3) := by decide +kernel
theorem dX6_drop_7 : decode cX6_drop 7 = .ok (.ifCond .ne 6, 3) := by decide +kernel
theorem dX6_drop_10 : decode cX6_drop 10 = .ok (.ldc 62, 2) := by decide +kernel
theorem dX6_drop_12 : decode cX6_drop 12 = .ok (.ireturn, 1) := by decide +kernel
theorem dX6_drop_13 : decode cX6_drop 13 = .ok (.aload_n 0, 1) := by decide +kernel
theorem dX6_drop_14 : decode cX6_drop 14 = .ok (.getfield 11, 3) := by decide +kernel
theorem dX6_drop_17 : decode cX6_drop 17 = .ok (.iload_n 1, 1) := by decide +kernel
theorem dX6_drop_18 : decode cX6_drop 18 = .ok (.aaload, 1) := by decide +kernel
theorem dX6_drop_19 : decode cX6_drop 19 = .ok (.astore_n 2, 1) := by decide +kernel
theorem dX6_drop_20 : decode cX6_drop 20 = .ok (.aload_n 2, 1) := by decide +kernel
theorem dX6_drop_21 : decode cX6_drop 21 = .ok (.invokevirtual 74, 3) := by decide +kernel
theorem dX6_drop_24 : decode cX6_drop 24 = .ok (.ifCond .eq 9, 3) := by decide +kernel
theorem dX6_drop_27 : decode cX6_drop 27 = .ok (.aload_n 0, 1) := by decide +kernel
theorem dX6_drop_28 : decode cX6_drop 28 = .ok (.iconst 1, 1) := by decide +kernel
theorem dX6_drop_29 : decode cX6_drop 29 = .ok (.invokevirtual 63, 3) := by decide +kernel
theorem dX6_drop_32 : decode cX6_drop 32 = .ok (.ireturn, 1) := by decide +kernel
theorem dX6_drop_33 : decode cX6_drop 33 = .ok (.aload_n 0, 1) := by decide +kernel
theorem dX6_drop_34 : decode cX6_drop 34 = .ok (.aload_n 2, 1) := by decide +kernel
theorem dX6_drop_35 : decode cX6_drop 35 = .ok (.invokevirtual 100, 3) := by decide +kernel
theorem dX6_drop_38 : decode cX6_drop 38 = .ok (.invokevirtual 71, 3) := by decide +kernel
theorem dX6_drop_41 : decode cX6_drop 41 = .ok (.ireturn, 1) := by decide +kernel
theorem dX6_feed_0 : decode cX6_feed 0 = .ok (.iload_n 1, 1) := by decide +kernel
theorem dX6_feed_1 : decode cX6_feed 1 = .ok (.iconst 0, 1) := by decide +kernel
theorem dX6_feed_2 : decode cX6_feed 2 = .ok (.sipush 255, 3) := by decide +kernel
theorem dX6_feed_5 : decode cX6_feed 5 = .ok (.invokestatic 58, 3) := by decide +kernel
theorem dX6_feed_8 : decode cX6_feed 8 = .ok (.ifCond .ne 6, 3) := by decide +kernel
theorem dX6_feed_11 : decode cX6_feed 11 = .ok (.ldc 62, 2) := by decide +kernel
theorem dX6_feed_13 : decode cX6_feed 13 = .ok (.ireturn, 1) := by decide +kernel
theorem dX6_feed_14 : decode cX6_feed 14 = .ok (.aload_n 0, 1) := by decide +kernel
theorem dX6_feed_15 : decode cX6_feed 15 = .ok (.getfield 32, 3) := by decide +kernel
theorem dX6_feed_18 : decode cX6_feed 18 = .ok (.iload_n 1, 1) := by decide +kernel
theorem dX6_feed_19 : decode cX6_feed 19 = .ok (.invokevirtual 104, 3) := by decide +kernel
theorem dX6_feed_22 : decode cX6_feed 22 = .ok (.ifCond .eq 13, 3) := by decide +kernel
theorem dX6_feed_25 : decode cX6_feed 25 = .ok (.aload_n 0, 1) := by decide +kernel
theorem dX6_feed_26 : decode cX6_feed 26 = .ok (.getfield 32, 3) := by decide +kernel
theorem dX6_feed_29 : decode cX6_feed 29 = .ok (.getfield 108, 3) := by decide +kernel
theorem dX6_feed_32 : decode cX6_feed 32 = .ok (.goto 5, 3) := by decide +kernel
theorem dX6_feed_35 : decode cX6_feed 35 = .ok (.ldc 111, 2) := by decide +kernel
theorem dX6_feed_37 : decode cX6_feed 37 = .ok (.ireturn, 1) := by decide +kernel
theorem dX6_agency_0 : decode cX6_agency 0 = .ok (.aload_n 0, 1) := by decide +kernel
theorem dX6_agency_1 : decode cX6_agency 1 = .ok (.getfield 32, 3) := by decide +kernel
theorem dX6_agency_4 : decode cX6_agency 4 = .ok (.aload_n 0, 1) := by decide +kernel
theorem dX6_agency_5 : decode cX6_agency 5 = .ok (.getfield 26, 3) := by decide +kernel
theorem dX6_agency_8 : decode cX6_agency 8 = .ok (.invokevirtual 112, 3) := by decide +kernel
theorem dX6_agency_11 : decode cX6_agency 11 = .ok (.aload_n 0, 1) := by decide +kernel
theorem dX6_agency_12 : decode cX6_agency 12 = .ok (.getfield 32, 3) := by decide +kernel
theorem dX6_agency_15 : decode cX6_agency 15 = .ok (.getfield 116, 3) := by decide +kernel
theorem dX6_agency_18 : decode cX6_agency 18 = .ok (.ifCond .eq 25, 3) := by decide +kernel
theorem dX6_agency_21 : decode cX6_agency 21 = .ok (.aload_n 0, 1) := by decide +kernel
theorem dX6_agency_22 : decode cX6_agency 22 = .ok (.aload_n 0, 1) := by decide +kernel
theorem dX6_agency_23 : decode cX6_agency 23 = .ok (.getfield 32, 3) := by decide +kernel
theorem dX6_agency_26 : decode cX6_agency 26 = .ok (.getfield 116, 3) := by decide +kernel
theorem dX6_agency_29 : decode cX6_agency 29 = .ok (.putfield 119, 3) := by decide +kernel
theorem dX6_agency_32 : decode cX6_agency 32 = .ok (.ldc 122, 2) := by decide +kernel
theorem dX6_agency_34 : decode cX6_agency 34 = .ok (.aload_n 0, 1) := by decide +kernel
theorem dX6_agency_35 : decode cX6_agency 35 = .ok (.getfield 32, 3) := by decide +kernel
theorem dX6_agency_38 : decode cX6_agency 38 = .ok (.getfield 123, 3) := by decide +kernel
theorem dX6_agency_41 : decode cX6_agency 41 = .ok (.isub, 1) := by decide +kernel
theorem dX6_agency_42 : decode cX6_agency 42 = .ok (.ireturn, 1) := by decide +kernel
theorem dX6_agency_43 : decode cX6_agency 43 = .ok (.aload_n 0, 1) := by decide +kernel
theorem dX6_agency_44 : decode cX6_agency 44 = .ok (.getfield 22, 3) := by decide +kernel
theorem dX6_agency_47 : decode cX6_agency 47 = .ok (.aload_n 0, 1) := by decide +kernel
theorem dX6_agency_48 : decode cX6_agency 48 = .ok (.getfield 26, 3) := by decide +kernel
theorem dX6_agency_51 : decode cX6_agency 51 = .ok (.invokevirtual 126, 3) := by decide +kernel
theorem dX6_agency_54 : decode cX6_agency 54 = .ok (.aload_n 0, 1) := by decide +kernel
theorem dX6_agency_55 : decode cX6_agency 55 = .ok (.getfield 39, 3) := by decide +kernel
theorem dX6_agency_58 : decode cX6_agency 58 = .ok (.invokevirtual 129, 3) := by decide +kernel
theorem dX6_agency_61 : decode cX6_agency 61 = .ok (.aload_n 0, 1) := by decide +kernel
theorem dX6_agency_62 : decode cX6_agency 62 = .ok (.getfield 22, 3) := by decide +kernel
theorem dX6_agency_65 : decode cX6_agency 65 = .ok (.getfield 132, 3) := by decide +kernel
theorem dX6_agency_68 : decode cX6_agency 68 = .ok (.ireturn, 1) := by decide +kernel
theorem dX6_fault_0 : decode cX6_fault 0 = .ok (.aload_n 0, 1) := by decide +kernel
theorem dX6_fault_1 : decode cX6_fault 1 = .ok (.getfield 119, 3) := by decide +kernel
theorem dX6_fault_4 : decode cX6_fault 4 = .ok (.ireturn, 1) := by decide +kernel
theorem dX6_nights_0 : decode cX6_nights 0 = .ok (.aload_n 0, 1) := by decide +kernel
theorem dX6_nights_1 : decode cX6_nights 1 = .ok (.getfield 22, 3) := by decide +kernel
theorem dX6_nights_4 : decode cX6_nights 4 = .ok (.invokevirtual 135, 3) := by decide +kernel
theorem dX6_nights_7 : decode cX6_nights 7 = .ok (.ifCond .ne 6, 3) := by decide +kernel
theorem dX6_nights_10 : decode cX6_nights 10 = .ok (.ldc 138, 2) := by decide +kernel
theorem dX6_nights_12 : decode cX6_nights 12 = .ok (.ireturn, 1) := by decide +kernel
theorem dX6_nights_13 : decode cX6_nights 13 = .ok (.iload_n 1, 1) := by decide +kernel
theorem dX6_nights_14 : decode cX6_nights 14 = .ok (.iconst 1, 1) := by decide +kernel
theorem dX6_nights_15 : decode cX6_nights 15 = .ok (.bipush 24, 2) := by decide +kernel
theorem dX6_nights_17 : decode cX6_nights 17 = .ok (.invokestatic 58, 3) := by decide +kernel
theorem dX6_nights_20 : decode cX6_nights 20 = .ok (.ifCond .ne 6, 3) := by decide +kernel
theorem dX6_nights_23 : decode cX6_nights 23 = .ok (.ldc 62, 2) := by decide +kernel
theorem dX6_nights_25 : decode cX6_nights 25 = .ok (.ireturn, 1) := by decide +kernel
theorem dX6_nights_26 : decode cX6_nights 26 = .ok (.aload_n 0, 1) := by decide +kernel
theorem dX6_nights_27 : decode cX6_nights 27 = .ok (.getfield 22, 3) := by decide +kernel
theorem dX6_nights_30 : decode cX6_nights 30 = .ok (.getfield 139, 3) := by decide +kernel
theorem dX6_nights_33 : decode cX6_nights 33 = .ok (.iload_n 1, 1) := by decide +kernel
theorem dX6_nights_34 : decode cX6_nights 34 = .ok (.iadd, 1) := by decide +kernel
theorem dX6_nights_35 : decode cX6_nights 35 = .ok (.sipush 999, 3) := by decide +kernel
theorem dX6_nights_38 : decode cX6_nights 38 = .ok (.if_icmp .le 6, 3) := by decide +kernel
theorem dX6_nights_41 : decode cX6_nights 41 = .ok (.ldc 111, 2) := by decide +kernel
theorem dX6_nights_43 : decode cX6_nights 43 = .ok (.ireturn, 1) := by decide +kernel
theorem dX6_nights_44 : decode cX6_nights 44 = .ok (.iconst 0, 1) := by decide +kernel
theorem dX6_nights_45 : decode cX6_nights 45 = .ok (.istore_n 2, 1) := by decide +kernel
theorem dX6_nights_46 : decode cX6_nights 46 = .ok (.iload_n 2, 1) := by decide +kernel
theorem dX6_nights_47 : decode cX6_nights 47 = .ok (.iload_n 1, 1) := by decide +kernel
theorem dX6_nights_48 : decode cX6_nights 48 = .ok (.if_icmp .ge 29, 3) := by decide +kernel
theorem dX6_nights_51 : decode cX6_nights 51 = .ok (.aload_n 0, 1) := by decide +kernel
theorem dX6_nights_52 : decode cX6_nights 52 = .ok (.getfield 39, 3) := by decide +kernel
theorem dX6_nights_55 : decode cX6_nights 55 = .ok (.aload_n 0, 1) := by decide +kernel
theorem dX6_nights_56 : decode cX6_nights 56 = .ok (.getfield 22, 3) := by decide +kernel
theorem dX6_nights_59 : decode cX6_nights 59 = .ok (.invokevirtual 142, 3) := by decide +kernel
theorem dX6_nights_62 : decode cX6_nights 62 = .ok (.aload_n 0, 1) := by decide +kernel
theorem dX6_nights_63 : decode cX6_nights 63 = .ok (.getfield 22, 3) := by decide +kernel
theorem dX6_nights_66 : decode cX6_nights 66 = .ok (.bipush 15, 2) := by decide +kernel
theorem dX6_nights_68 : decode cX6_nights 68 = .ok (.invokevirtual 145, 3) := by decide +kernel
theorem dX6_nights_71 : decode cX6_nights 71 = .ok (.iinc 2 1, 3) := by decide +kernel
theorem dX6_nights_74 : decode cX6_nights 74 = .ok (.goto (-28), 3) := by decide +kernel
theorem dX6_nights_77 : decode cX6_nights 77 = .ok (.aload_n 0, 1) := by decide +kernel
theorem dX6_nights_78 : decode cX6_nights 78 = .ok (.getfield 22, 3) := by decide +kernel
theorem dX6_nights_81 : decode cX6_nights 81 = .ok (.invokevirtual 149, 3) := by decide +kernel
theorem dX6_nights_84 : decode cX6_nights 84 = .ok (.ireturn, 1) := by decide +kernel
theorem dX6_let_0 : decode cX6_let 0 = .ok (.aload_n 0, 1) := by decide +kernel
theorem dX6_let_1 : decode cX6_let 1 = .ok (.getfield 22, 3) := by decide +kernel
theorem dX6_let_4 : decode cX6_let 4 = .ok (.iload_n 1, 1) := by decide +kernel
theorem dX6_let_5 : decode cX6_let 5 = .ok (.invokevirtual 152, 3) := by decide +kernel
theorem dX6_let_8 : decode cX6_let 8 = .ok (.ifCond .eq 19, 3) := by decide +kernel
theorem dX6_let_11 : decode cX6_let 11 = .ok (.aload_n 0, 1) := by decide +kernel
theorem dX6_let_12 : decode cX6_let 12 = .ok (.getfield 22, 3) := by decide +kernel
theorem dX6_let_15 : decode cX6_let 15 = .ok (.iload_n 2, 1) := by decide +kernel
theorem dX6_let_16 : decode cX6_let 16 = .ok (.invokevirtual 155, 3) := by decide +kernel
theorem dX6_let_19 : decode cX6_let 19 = .ok (.ifCond .ne 11, 3) := by decide +kernel
theorem dX6_let_22 : decode cX6_let 22 = .ok (.iload_n 2, 1) := by decide +kernel
theorem dX6_let_23 : decode cX6_let 23 = .ok (.iconst 5, 1) := by decide +kernel
theorem dX6_let_24 : decode cX6_let 24 = .ok (.if_icmp .eq 6, 3) := by decide +kernel
theorem dX6_let_27 : decode cX6_let 27 = .ok (.ldc 62, 2) := by decide +kernel
theorem dX6_let_29 : decode cX6_let 29 = .ok (.ireturn, 1) := by decide +kernel
theorem dX6_let_30 : decode cX6_let 30 = .ok (.aload_n 0, 1) := by decide +kernel
theorem dX6_let_31 : decode cX6_let 31 = .ok (.getfield 22, 3) := by decide +kernel
theorem dX6_let_34 : decode cX6_let 34 = .ok (.getfield 158, 3) := by decide +kernel
theorem dX6_let_37 : decode cX6_let 37 = .ok (.iload_n 1, 1) := by decide +kernel
theorem dX6_let_38 : decode cX6_let 38 = .ok (.iaload, 1) := by decide +kernel
theorem dX6_let_39 : decode cX6_let 39 = .ok (.istore_n 3, 1) := by decide +kernel
theorem dX6_let_40 : decode cX6_let 40 = .ok (.iload_n 3, 1) := by decide +kernel
theorem dX6_let_41 : decode cX6_let 41 = .ok (.iload_n 2, 1) := by decide +kernel
theorem dX6_let_42 : decode cX6_let 42 = .ok (.if_icmp .ne 6, 3) := by decide +kernel
theorem dX6_let_45 : decode cX6_let 45 = .ok (.ldc 138, 2) := by decide +kernel
theorem dX6_let_47 : decode cX6_let 47 = .ok (.ireturn, 1) := by decide +kernel
theorem dX6_let_48 : decode cX6_let 48 = .ok (.aload_n 0, 1) := by decide +kernel
theorem dX6_let_49 : decode cX6_let 49 = .ok (.getfield 39, 3) := by decide +kernel
theorem dX6_let_52 : decode cX6_let 52 = .ok (.aload_n 0, 1) := by decide +kernel
theorem dX6_let_53 : decode cX6_let 53 = .ok (.getfield 22, 3) := by decide +kernel
theorem dX6_let_56 : decode cX6_let 56 = .ok (.invokevirtual 142, 3) := by decide +kernel
theorem dX6_let_59 : decode cX6_let 59 = .ok (.aload_n 0, 1) := by decide +kernel
theorem dX6_let_60 : decode cX6_let 60 = .ok (.getfield 22, 3) := by decide +kernel
theorem dX6_let_63 : decode cX6_let 63 = .ok (.getfield 158, 3) := by decide +kernel
theorem dX6_let_66 : decode cX6_let 66 = .ok (.iload_n 1, 1) := by decide +kernel
theorem dX6_let_67 : decode cX6_let 67 = .ok (.iload_n 2, 1) := by decide +kernel
theorem dX6_let_68 : decode cX6_let 68 = .ok (.iastore, 1) := by decide +kernel
theorem dX6_let_69 : decode cX6_let 69 = .ok (.iload_n 3, 1) := by decide +kernel
theorem dX6_let_70 : decode cX6_let 70 = .ok (.ireturn, 1) := by decide +kernel
theorem dX6_grow_0 : decode cX6_grow 0 = .ok (.aload_n 0, 1) := by decide +kernel
theorem dX6_grow_1 : decode cX6_grow 1 = .ok (.getfield 22, 3) := by decide +kernel
theorem dX6_grow_4 : decode cX6_grow 4 = .ok (.iload_n 1, 1) := by decide +kernel
theorem dX6_grow_5 : decode cX6_grow 5 = .ok (.invokevirtual 155, 3) := by decide +kernel
theorem dX6_grow_8 : decode cX6_grow 8 = .ok (.ifCond .eq 13, 3) := by decide +kernel
theorem dX6_grow_11 : decode cX6_grow 11 = .ok (.iload_n 2, 1) := by decide +kernel
theorem dX6_grow_12 : decode cX6_grow 12 = .ok (.iconst 1, 1) := by decide +kernel
theorem dX6_grow_13 : decode cX6_grow 13 = .ok (.bipush 20, 2) := by decide +kernel
theorem dX6_grow_15 : decode cX6_grow 15 = .ok (.invokestatic 58, 3) := by decide +kernel
theorem dX6_grow_18 : decode cX6_grow 18 = .ok (.ifCond .ne 6, 3) := by decide +kernel
theorem dX6_grow_21 : decode cX6_grow 21 = .ok (.ldc 62, 2) := by decide +kernel
theorem dX6_grow_23 : decode cX6_grow 23 = .ok (.ireturn, 1) := by decide +kernel
theorem dX6_grow_24 : decode cX6_grow 24 = .ok (.aload_n 0, 1) := by decide +kernel
theorem dX6_grow_25 : decode cX6_grow 25 = .ok (.getfield 39, 3) := by decide +kernel
theorem dX6_grow_28 : decode cX6_grow 28 = .ok (.aload_n 0, 1) := by decide +kernel
theorem dX6_grow_29 : decode cX6_grow 29 = .ok (.getfield 22, 3) := by decide +kernel
theorem dX6_grow_32 : decode cX6_grow 32 = .ok (.invokevirtual 142, 3) := by decide +kernel
theorem dX6_grow_35 : decode cX6_grow 35 = .ok (.aload_n 0, 1) := by decide +kernel
theorem dX6_grow_36 : decode cX6_grow 36 = .ok (.getfield 22, 3) := by decide +kernel
theorem dX6_grow_39 : decode cX6_grow 39 = .ok (.iload_n 1, 1) := by decide +kernel
theorem dX6_grow_40 : decode cX6_grow 40 = .ok (.iload_n 2, 1) := by decide +kernel
theorem dX6_grow_41 : decode cX6_grow 41 = .ok (.invokevirtual 161, 3) := by decide +kernel
theorem dX6_grow_44 : decode cX6_grow 44 = .ok (.aload_n 0, 1) := by decide +kernel
theorem dX6_grow_45 : decode cX6_grow 45 = .ok (.getfield 22, 3) := by decide +kernel
theorem dX6_grow_48 : decode cX6_grow 48 = .ok (.getfield 164, 3) := by decide +kernel
theorem dX6_grow_51 : decode cX6_grow 51 = .ok (.iload_n 1, 1) := by decide +kernel
theorem dX6_grow_52 : decode cX6_grow 52 = .ok (.iaload, 1) := by decide +kernel
theorem dX6_grow_53 : decode cX6_grow 53 = .ok (.ireturn, 1) := by decide +kernel
theorem dX6_learn_0 : decode cX6_learn 0 = .ok (.aload_n 0, 1) := by decide +kernel
theorem dX6_learn_1 : decode cX6_learn 1 = .ok (.getfield 22, 3) := by decide +kernel
theorem dX6_learn_4 : decode cX6_learn 4 = .ok (.iload_n 1, 1) := by decide +kernel
theorem dX6_learn_5 : decode cX6_learn 5 = .ok (.invokevirtual 152, 3) := by decide +kernel
theorem dX6_learn_8 : decode cX6_learn 8 = .ok (.ifCond .eq 12, 3) := by decide +kernel
theorem dX6_learn_11 : decode cX6_learn 11 = .ok (.iload_n 2, 1) := by decide +kernel
theorem dX6_learn_12 : decode cX6_learn 12 = .ok (.iconst 0, 1) := by decide +kernel
theorem dX6_learn_13 : decode cX6_learn 13 = .ok (.iconst 5, 1) := by decide +kernel
theorem dX6_learn_14 : decode cX6_learn 14 = .ok (.invokestatic 58, 3) := by decide +kernel
theorem dX6_learn_17 : decode cX6_learn 17 = .ok (.ifCond .ne 6, 3) := by decide +kernel
theorem dX6_learn_20 : decode cX6_learn 20 = .ok (.ldc 62, 2) := by decide +kernel
theorem dX6_learn_22 : decode cX6_learn 22 = .ok (.ireturn, 1) := by decide +kernel
theorem dX6_learn_23 : decode cX6_learn 23 = .ok (.aload_n 0, 1) := by decide +kernel
theorem dX6_learn_24 : decode cX6_learn 24 = .ok (.getfield 22, 3) := by decide +kernel
theorem dX6_learn_27 : decode cX6_learn 27 = .ok (.getfield 167, 3) := by decide +kernel
theorem dX6_learn_30 : decode cX6_learn 30 = .ok (.iload_n 1, 1) := by decide +kernel
theorem dX6_learn_31 : decode cX6_learn 31 = .ok (.iaload, 1) := by decide +kernel
theorem dX6_learn_32 : decode cX6_learn 32 = .ok (.istore_n 3, 1) := by decide +kernel
theorem dX6_learn_33 : decode cX6_learn 33 = .ok (.aload_n 0, 1) := by decide +kernel
theorem dX6_learn_34 : decode cX6_learn 34 = .ok (.getfield 39, 3) := by decide +kernel
theorem dX6_learn_37 : decode cX6_learn 37 = .ok (.aload_n 0, 1) := by decide +kernel
theorem dX6_learn_38 : decode cX6_learn 38 = .ok (.getfield 22, 3) := by decide +kernel
theorem dX6_learn_41 : decode cX6_learn 41 = .ok (.invokevirtual 142, 3) := by decide +kernel
theorem dX6_learn_44 : decode cX6_learn 44 = .ok (.aload_n 0, 1) := by decide +kernel
theorem dX6_learn_45 : decode cX6_learn 45 = .ok (.getfield 22, 3) := by decide +kernel
theorem dX6_learn_48 : decode cX6_learn 48 = .ok (.getfield 167, 3) := by decide +kernel
theorem dX6_learn_51 : decode cX6_learn 51 = .ok (.iload_n 1, 1) := by decide +kernel
theorem dX6_learn_52 : decode cX6_learn 52 = .ok (.iload_n 2, 1) := by decide +kernel
theorem dX6_learn_53 : decode cX6_learn 53 = .ok (.iastore, 1) := by decide +kernel
theorem dX6_learn_54 : decode cX6_learn 54 = .ok (.iload_n 3, 1) := by decide +kernel
theorem dX6_learn_55 : decode cX6_learn 55 = .ok (.ireturn, 1) := by decide +kernel
theorem dX6_undo_0 : decode cX6_undo 0 = .ok (.aload_n 0, 1) := by decide +kernel
theorem dX6_undo_1 : decode cX6_undo 1 = .ok (.getfield 39, 3) := by decide +kernel
theorem dX6_undo_4 : decode cX6_undo 4 = .ok (.aload_n 0, 1) := by decide +kernel
theorem dX6_undo_5 : decode cX6_undo 5 = .ok (.getfield 22, 3) := by decide +kernel
theorem dX6_undo_8 : decode cX6_undo 8 = .ok (.invokevirtual 170, 3) := by decide +kernel
theorem dX6_undo_11 : decode cX6_undo 11 = .ok (.ifCond .eq 13, 3) := by decide +kernel
theorem dX6_undo_14 : decode cX6_undo 14 = .ok (.aload_n 0, 1) := by decide +kernel
theorem dX6_undo_15 : decode cX6_undo 15 = .ok (.getfield 39, 3) := by decide +kernel
theorem dX6_undo_18 : decode cX6_undo 18 = .ok (.getfield 174, 3) := by decide +kernel
theorem dX6_undo_21 : decode cX6_undo 21 = .ok (.goto 5, 3) := by decide +kernel
theorem dX6_undo_24 : decode cX6_undo 24 = .ok (.ldc 138, 2) := by decide +kernel
theorem dX6_undo_26 : decode cX6_undo 26 = .ok (.ireturn, 1) := by decide +kernel
theorem dX6_client_0 : decode cX6_client 0 = .ok (.aload_n 0, 1) := by decide +kernel
theorem dX6_client_1 : decode cX6_client 1 = .ok (.getfield 22, 3) := by decide +kernel
theorem dX6_client_4 : decode cX6_client 4 = .ok (.iload_n 1, 1) := by decide +kernel
theorem dX6_client_5 : decode cX6_client 5 = .ok (.invokevirtual 155, 3) := by decide +kernel
theorem dX6_client_8 : decode cX6_client 8 = .ok (.ifCond .ne 6, 3) := by decide +kernel
theorem dX6_client_11 : decode cX6_client 11 = .ok (.ldc 62, 2) := by decide +kernel
theorem dX6_client_13 : decode cX6_client 13 = .ok (.ireturn, 1) := by decide +kernel
theorem dX6_client_14 : decode cX6_client 14 = .ok (.iload_n 2, 1) := by decide +kernel
theorem dX6_client_15 : decode cX6_client 15 = .ok (.tableswitch 85 0 4 #[33, 43, 53, 65, 74], 33) := by decide +kernel
theorem dX6_client_48 : decode cX6_client 48 = .ok (.aload_n 0, 1) := by decide +kernel
theorem dX6_client_49 : decode cX6_client 49 = .ok (.getfield 22, 3) := by decide +kernel
theorem dX6_client_52 : decode cX6_client 52 = .ok (.getfield 164, 3) := by decide +kernel
theorem dX6_client_55 : decode cX6_client 55 = .ok (.iload_n 1, 1) := by decide +kernel
theorem dX6_client_56 : decode cX6_client 56 = .ok (.iaload, 1) := by decide +kernel
theorem dX6_client_57 : decode cX6_client 57 = .ok (.ireturn, 1) := by decide +kernel
theorem dX6_client_58 : decode cX6_client 58 = .ok (.aload_n 0, 1) := by decide +kernel
theorem dX6_client_59 : decode cX6_client 59 = .ok (.getfield 22, 3) := by decide +kernel
theorem dX6_client_62 : decode cX6_client 62 = .ok (.getfield 177, 3) := by decide +kernel
theorem dX6_client_65 : decode cX6_client 65 = .ok (.iload_n 1, 1) := by decide +kernel
theorem dX6_client_66 : decode cX6_client 66 = .ok (.iaload, 1) := by decide +kernel
theorem dX6_client_67 : decode cX6_client 67 = .ok (.ireturn, 1) := by decide +kernel
theorem dX6_client_68 : decode cX6_client 68 = .ok (.aload_n 0, 1) := by decide +kernel
theorem dX6_client_69 : decode cX6_client 69 = .ok (.getfield 22, 3) := by decide +kernel
theorem dX6_client_72 : decode cX6_client 72 = .ok (.invokevirtual 149, 3) := by decide +kernel
theorem dX6_client_75 : decode cX6_client 75 = .ok (.iload_n 1, 1) := by decide +kernel
theorem dX6_client_76 : decode cX6_client 76 = .ok (.ishr, 1) := by decide +kernel
theorem dX6_client_77 : decode cX6_client 77 = .ok (.iconst 1, 1) := by decide +kernel
theorem dX6_client_78 : decode cX6_client 78 = .ok (.iand, 1) := by decide +kernel
theorem dX6_client_79 : decode cX6_client 79 = .ok (.ireturn, 1) := by decide +kernel
theorem dX6_client_80 : decode cX6_client 80 = .ok (.aload_n 0, 1) := by decide +kernel
theorem dX6_client_81 : decode cX6_client 81 = .ok (.getfield 22, 3) := by decide +kernel
theorem dX6_client_84 : decode cX6_client 84 = .ok (.iload_n 1, 1) := by decide +kernel
theorem dX6_client_85 : decode cX6_client 85 = .ok (.invokevirtual 180, 3) := by decide +kernel
theorem dX6_client_88 : decode cX6_client 88 = .ok (.ireturn, 1) := by decide +kernel
theorem dX6_client_89 : decode cX6_client 89 = .ok (.aload_n 0, 1) := by decide +kernel
theorem dX6_client_90 : decode cX6_client 90 = .ok (.getfield 22, 3) := by decide +kernel
theorem dX6_client_93 : decode cX6_client 93 = .ok (.iload_n 1, 1) := by decide +kernel
theorem dX6_client_94 : decode cX6_client 94 = .ok (.bipush 15, 2) := by decide +kernel
theorem dX6_client_96 : decode cX6_client 96 = .ok (.invokevirtual 183, 3) := by decide +kernel
theorem dX6_client_99 : decode cX6_client 99 = .ok (.ireturn, 1) := by decide +kernel
theorem dX6_client_100 : decode cX6_client 100 = .ok (.ldc 62, 2) := by decide +kernel
theorem dX6_client_102 : decode cX6_client 102 = .ok (.ireturn, 1) := by decide +kernel
theorem dX6_waker_0 : decode cX6_waker 0 = .ok (.aload_n 0, 1) := by decide +kernel
theorem dX6_waker_1 : decode cX6_waker 1 = .ok (.getfield 22, 3) := by decide +kernel
theorem dX6_waker_4 : decode cX6_waker 4 = .ok (.iload_n 1, 1) := by decide +kernel
theorem dX6_waker_5 : decode cX6_waker 5 = .ok (.invokevirtual 152, 3) := by decide +kernel
theorem dX6_waker_8 : decode cX6_waker 8 = .ok (.ifCond .ne 6, 3) := by decide +kernel
theorem dX6_waker_11 : decode cX6_waker 11 = .ok (.ldc 62, 2) := by decide +kernel
theorem dX6_waker_13 : decode cX6_waker 13 = .ok (.ireturn, 1) := by decide +kernel
theorem dX6_waker_14 : decode cX6_waker 14 = .ok (.iload_n 2, 1) := by decide +kernel
theorem dX6_waker_15 : decode cX6_waker 15 = .ok (.tableswitch 98 0 4 #[33, 43, 53, 63, 88], 33) := by decide +kernel
theorem dX6_waker_48 : decode cX6_waker 48 = .ok (.aload_n 0, 1) := by decide +kernel
theorem dX6_waker_49 : decode cX6_waker 49 = .ok (.getfield 22, 3) := by decide +kernel
theorem dX6_waker_52 : decode cX6_waker 52 = .ok (.getfield 186, 3) := by decide +kernel
theorem dX6_waker_55 : decode cX6_waker 55 = .ok (.iload_n 1, 1) := by decide +kernel
theorem dX6_waker_56 : decode cX6_waker 56 = .ok (.iaload, 1) := by decide +kernel
theorem dX6_waker_57 : decode cX6_waker 57 = .ok (.ireturn, 1) := by decide +kernel
theorem dX6_waker_58 : decode cX6_waker 58 = .ok (.aload_n 0, 1) := by decide +kernel
theorem dX6_waker_59 : decode cX6_waker 59 = .ok (.getfield 22, 3) := by decide +kernel
theorem dX6_waker_62 : decode cX6_waker 62 = .ok (.getfield 167, 3) := by decide +kernel
theorem dX6_waker_65 : decode cX6_waker 65 = .ok (.iload_n 1, 1) := by decide +kernel
theorem dX6_waker_66 : decode cX6_waker 66 = .ok (.iaload, 1) := by decide +kernel
theorem dX6_waker_67 : decode cX6_waker 67 = .ok (.ireturn, 1) := by decide +kernel
theorem dX6_waker_68 : decode cX6_waker 68 = .ok (.aload_n 0, 1) := by decide +kernel
theorem dX6_waker_69 : decode cX6_waker 69 = .ok (.getfield 22, 3) := by decide +kernel
theorem dX6_waker_72 : decode cX6_waker 72 = .ok (.getfield 158, 3) := by decide +kernel
theorem dX6_waker_75 : decode cX6_waker 75 = .ok (.iload_n 1, 1) := by decide +kernel
theorem dX6_waker_76 : decode cX6_waker 76 = .ok (.iaload, 1) := by decide +kernel
theorem dX6_waker_77 : decode cX6_waker 77 = .ok (.ireturn, 1) := by decide +kernel
theorem dX6_waker_78 : decode cX6_waker 78 = .ok (.aload_n 0, 1) := by decide +kernel
theorem dX6_waker_79 : decode cX6_waker 79 = .ok (.getfield 22, 3) := by decide +kernel
theorem dX6_waker_82 : decode cX6_waker 82 = .ok (.iload_n 1, 1) := by decide +kernel
theorem dX6_waker_83 : decode cX6_waker 83 = .ok (.aload_n 0, 1) := by decide +kernel
theorem dX6_waker_84 : decode cX6_waker 84 = .ok (.getfield 22, 3) := by decide +kernel
theorem dX6_waker_87 : decode cX6_waker 87 = .ok (.getfield 158, 3) := by decide +kernel
theorem dX6_waker_90 : decode cX6_waker 90 = .ok (.iload_n 1, 1) := by decide +kernel
theorem dX6_waker_91 : decode cX6_waker 91 = .ok (.iaload, 1) := by decide +kernel
theorem dX6_waker_92 : decode cX6_waker 92 = .ok (.aload_n 0, 1) := by decide +kernel
theorem dX6_waker_93 : decode cX6_waker 93 = .ok (.getfield 22, 3) := by decide +kernel
theorem dX6_waker_96 : decode cX6_waker 96 = .ok (.getfield 139, 3) := by decide +kernel
theorem dX6_waker_99 : decode cX6_waker 99 = .ok (.invokevirtual 189, 3) := by decide +kernel
theorem dX6_waker_102 : decode cX6_waker 102 = .ok (.ireturn, 1) := by decide +kernel
theorem dX6_waker_103 : decode cX6_waker 103 = .ok (.aload_n 0, 1) := by decide +kernel
theorem dX6_waker_104 : decode cX6_waker 104 = .ok (.getfield 22, 3) := by decide +kernel
theorem dX6_waker_107 : decode cX6_waker 107 = .ok (.getfield 193, 3) := by decide +kernel
theorem dX6_waker_110 : decode cX6_waker 110 = .ok (.iload_n 1, 1) := by decide +kernel
theorem dX6_waker_111 : decode cX6_waker 111 = .ok (.iaload, 1) := by decide +kernel
theorem dX6_waker_112 : decode cX6_waker 112 = .ok (.ireturn, 1) := by decide +kernel
theorem dX6_waker_113 : decode cX6_waker 113 = .ok (.ldc 62, 2) := by decide +kernel
theorem dX6_waker_115 : decode cX6_waker 115 = .ok (.ireturn, 1) := by decide +kernel
theorem dX6_weight_0 : decode cX6_weight 0 = .ok (.aload_n 0, 1) := by decide +kernel
theorem dX6_weight_1 : decode cX6_weight 1 = .ok (.getfield 22, 3) := by decide +kernel
theorem dX6_weight_4 : decode cX6_weight 4 = .ok (.iload_n 1, 1) := by decide +kernel
theorem dX6_weight_5 : decode cX6_weight 5 = .ok (.invokevirtual 155, 3) := by decide +kernel
theorem dX6_weight_8 : decode cX6_weight 8 = .ok (.ifCond .eq 13, 3) := by decide +kernel
theorem dX6_weight_11 : decode cX6_weight 11 = .ok (.iload_n 2, 1) := by decide +kernel
theorem dX6_weight_12 : decode cX6_weight 12 = .ok (.iconst 0, 1) := by decide +kernel
theorem dX6_weight_13 : decode cX6_weight 13 = .ok (.bipush 60, 2) := by decide +kernel
theorem dX6_weight_15 : decode cX6_weight 15 = .ok (.invokestatic 58, 3) := by decide +kernel
theorem dX6_weight_18 : decode cX6_weight 18 = .ok (.ifCond .ne 6, 3) := by decide +kernel
theorem dX6_weight_21 : decode cX6_weight 21 = .ok (.ldc 62, 2) := by decide +kernel
theorem dX6_weight_23 : decode cX6_weight 23 = .ok (.ireturn, 1) := by decide +kernel
theorem dX6_weight_24 : decode cX6_weight 24 = .ok (.aload_n 0, 1) := by decide +kernel
theorem dX6_weight_25 : decode cX6_weight 25 = .ok (.iload_n 2, 1) := by decide +kernel
theorem dX6_weight_26 : decode cX6_weight 26 = .ok (.invokevirtual 196, 3) := by decide +kernel
theorem dX6_weight_29 : decode cX6_weight 29 = .ok (.aload_n 0, 1) := by decide +kernel
theorem dX6_weight_30 : decode cX6_weight 30 = .ok (.getfield 26, 3) := by decide +kernel
theorem dX6_weight_33 : decode cX6_weight 33 = .ok (.getfield 164, 3) := by decide +kernel
theorem dX6_weight_36 : decode cX6_weight 36 = .ok (.iload_n 1, 1) := by decide +kernel
theorem dX6_weight_37 : decode cX6_weight 37 = .ok (.iaload, 1) := by decide +kernel
theorem dX6_weight_38 : decode cX6_weight 38 = .ok (.ireturn, 1) := by decide +kernel
theorem dX6_earned_0 : decode cX6_earned 0 = .ok (.aload_n 0, 1) := by decide +kernel
theorem dX6_earned_1 : decode cX6_earned 1 = .ok (.getfield 22, 3) := by decide +kernel
theorem dX6_earned_4 : decode cX6_earned 4 = .ok (.iload_n 1, 1) := by decide +kernel
theorem dX6_earned_5 : decode cX6_earned 5 = .ok (.invokevirtual 152, 3) := by decide +kernel
theorem dX6_earned_8 : decode cX6_earned 8 = .ok (.ifCond .eq 13, 3) := by decide +kernel
theorem dX6_earned_11 : decode cX6_earned 11 = .ok (.iload_n 2, 1) := by decide +kernel
theorem dX6_earned_12 : decode cX6_earned 12 = .ok (.iconst 0, 1) := by decide +kernel
theorem dX6_earned_13 : decode cX6_earned 13 = .ok (.bipush 60, 2) := by decide +kernel
theorem dX6_earned_15 : decode cX6_earned 15 = .ok (.invokestatic 58, 3) := by decide +kernel
theorem dX6_earned_18 : decode cX6_earned 18 = .ok (.ifCond .ne 6, 3) := by decide +kernel
theorem dX6_earned_21 : decode cX6_earned 21 = .ok (.ldc 62, 2) := by decide +kernel
theorem dX6_earned_23 : decode cX6_earned 23 = .ok (.ireturn, 1) := by decide +kernel
theorem dX6_earned_24 : decode cX6_earned 24 = .ok (.aload_n 0, 1) := by decide +kernel
theorem dX6_earned_25 : decode cX6_earned 25 = .ok (.iload_n 2, 1) := by decide +kernel
theorem dX6_earned_26 : decode cX6_earned 26 = .ok (.invokevirtual 196, 3) := by decide +kernel
theorem dX6_earned_29 : decode cX6_earned 29 = .ok (.aload_n 0, 1) := by decide +kernel
theorem dX6_earned_30 : decode cX6_earned 30 = .ok (.getfield 26, 3) := by decide +kernel
theorem dX6_earned_33 : decode cX6_earned 33 = .ok (.getfield 193, 3) := by decide +kernel
theorem dX6_earned_36 : decode cX6_earned 36 = .ok (.iload_n 1, 1) := by decide +kernel
theorem dX6_earned_37 : decode cX6_earned 37 = .ok (.iaload, 1) := by decide +kernel
theorem dX6_earned_38 : decode cX6_earned 38 = .ok (.ireturn, 1) := by decide +kernel
theorem dX6_rests_0 : decode cX6_rests 0 = .ok (.aload_n 0, 1) := by decide +kernel
theorem dX6_rests_1 : decode cX6_rests 1 = .ok (.getfield 22, 3) := by decide +kernel
theorem dX6_rests_4 : decode cX6_rests 4 = .ok (.invokevirtual 135, 3) := by decide +kernel
theorem dX6_rests_7 : decode cX6_rests 7 = .ok (.ifCond .ne 6, 3) := by decide +kernel
theorem dX6_rests_10 : decode cX6_rests 10 = .ok (.ldc 138, 2) := by decide +kernel
theorem dX6_rests_12 : decode cX6_rests 12 = .ok (.ireturn, 1) := by decide +kernel
theorem dX6_rests_13 : decode cX6_rests 13 = .ok (.iload_n 1, 1) := by decide +kernel
theorem dX6_rests_14 : decode cX6_rests 14 = .ok (.iconst 0, 1) := by decide +kernel
theorem dX6_rests_15 : decode cX6_rests 15 = .ok (.bipush 60, 2) := by decide +kernel
theorem dX6_rests_17 : decode cX6_rests 17 = .ok (.invokestatic 58, 3) := by decide +kernel
theorem dX6_rests_20 : decode cX6_rests 20 = .ok (.ifCond .ne 6, 3) := by decide +kernel
theorem dX6_rests_23 : decode cX6_rests 23 = .ok (.ldc 62, 2) := by decide +kernel
theorem dX6_rests_25 : decode cX6_rests 25 = .ok (.ireturn, 1) := by decide +kernel
theorem dX6_rests_26 : decode cX6_rests 26 = .ok (.aload_n 0, 1) := by decide +kernel
theorem dX6_rests_27 : decode cX6_rests 27 = .ok (.iload_n 1, 1) := by decide +kernel
theorem dX6_rests_28 : decode cX6_rests 28 = .ok (.invokevirtual 196, 3) := by decide +kernel
theorem dX6_rests_31 : decode cX6_rests 31 = .ok (.aload_n 0, 1) := by decide +kernel
theorem dX6_rests_32 : decode cX6_rests 32 = .ok (.getfield 26, 3) := by decide +kernel
theorem dX6_rests_35 : decode cX6_rests 35 = .ok (.invokevirtual 149, 3) := by decide +kernel
theorem dX6_rests_38 : decode cX6_rests 38 = .ok (.ireturn, 1) := by decide +kernel
theorem dX6_when_0 : decode cX6_when 0 = .ok (.aload_n 0, 1) := by decide +kernel
theorem dX6_when_1 : decode cX6_when 1 = .ok (.getfield 22, 3) := by decide +kernel
theorem dX6_when_4 : decode cX6_when 4 = .ok (.iload_n 1, 1) := by decide +kernel
theorem dX6_when_5 : decode cX6_when 5 = .ok (.invokevirtual 155, 3) := by decide +kernel
theorem dX6_when_8 : decode cX6_when 8 = .ok (.ifCond .ne 6, 3) := by decide +kernel
theorem dX6_when_11 : decode cX6_when 11 = .ok (.ldc 62, 2) := by decide +kernel
theorem dX6_when_13 : decode cX6_when 13 = .ok (.ireturn, 1) := by decide +kernel
theorem dX6_when_14 : decode cX6_when 14 = .ok (.aload_n 0, 1) := by decide +kernel
theorem dX6_when_15 : decode cX6_when 15 = .ok (.iconst 1, 1) := by decide +kernel
theorem dX6_when_16 : decode cX6_when 16 = .ok (.iload_n 1, 1) := by decide +kernel
theorem dX6_when_17 : decode cX6_when 17 = .ok (.ishl, 1) := by decide +kernel
theorem dX6_when_18 : decode cX6_when 18 = .ok (.invokevirtual 199, 3) := by decide +kernel
theorem dX6_when_21 : decode cX6_when 21 = .ok (.ireturn, 1) := by decide +kernel
theorem dX6_all_0 : decode cX6_all 0 = .ok (.aload_n 0, 1) := by decide +kernel
theorem dX6_all_1 : decode cX6_all 1 = .ok (.getfield 22, 3) := by decide +kernel
theorem dX6_all_4 : decode cX6_all 4 = .ok (.invokevirtual 135, 3) := by decide +kernel
theorem dX6_all_7 : decode cX6_all 7 = .ok (.ifCond .ne 6, 3) := by decide +kernel
theorem dX6_all_10 : decode cX6_all 10 = .ok (.ldc 138, 2) := by decide +kernel
theorem dX6_all_12 : decode cX6_all 12 = .ok (.ireturn, 1) := by decide +kernel
theorem dX6_all_13 : decode cX6_all 13 = .ok (.aload_n 0, 1) := by decide +kernel
theorem dX6_all_14 : decode cX6_all 14 = .ok (.getfield 22, 3) := by decide +kernel
theorem dX6_all_17 : decode cX6_all 17 = .ok (.iload_n 1, 1) := by decide +kernel
theorem dX6_all_18 : decode cX6_all 18 = .ok (.invokevirtual 202, 3) := by decide +kernel
theorem dX6_all_21 : decode cX6_all 21 = .ok (.ifCond .ne 6, 3) := by decide +kernel
theorem dX6_all_24 : decode cX6_all 24 = .ok (.ldc 62, 2) := by decide +kernel
theorem dX6_all_26 : decode cX6_all 26 = .ok (.ireturn, 1) := by decide +kernel
theorem dX6_all_27 : decode cX6_all 27 = .ok (.aload_n 0, 1) := by decide +kernel
theorem dX6_all_28 : decode cX6_all 28 = .ok (.iload_n 1, 1) := by decide +kernel
theorem dX6_all_29 : decode cX6_all 29 = .ok (.invokevirtual 199, 3) := by decide +kernel
theorem dX6_all_32 : decode cX6_all 32 = .ok (.ireturn, 1) := by decide +kernel
theorem dX6_never_0 : decode cX6_never 0 = .ok (.aload_n 0, 1) := by decide +kernel
theorem dX6_never_1 : decode cX6_never 1 = .ok (.getfield 22, 3) := by decide +kernel
theorem dX6_never_4 : decode cX6_never 4 = .ok (.invokevirtual 135, 3) := by decide +kernel
theorem dX6_never_7 : decode cX6_never 7 = .ok (.ifCond .ne 6, 3) := by decide +kernel
theorem dX6_never_10 : decode cX6_never 10 = .ok (.ldc 138, 2) := by decide +kernel
theorem dX6_never_12 : decode cX6_never 12 = .ok (.ireturn, 1) := by decide +kernel
theorem dX6_never_13 : decode cX6_never 13 = .ok (.aload_n 0, 1) := by decide +kernel
theorem dX6_never_14 : decode cX6_never 14 = .ok (.getfield 26, 3) := by decide +kernel
theorem dX6_never_17 : decode cX6_never 17 = .ok (.aload_n 0, 1) := by decide +kernel
theorem dX6_never_18 : decode cX6_never 18 = .ok (.getfield 22, 3) := by decide +kernel
theorem dX6_never_21 : decode cX6_never 21 = .ok (.invokevirtual 126, 3) := by decide +kernel
theorem dX6_never_24 : decode cX6_never 24 = .ok (.aload_n 0, 1) := by decide +kernel
theorem dX6_never_25 : decode cX6_never 25 = .ok (.getfield 26, 3) := by decide +kernel
theorem dX6_never_28 : decode cX6_never 28 = .ok (.invokevirtual 149, 3) := by decide +kernel
theorem dX6_never_31 : decode cX6_never 31 = .ok (.istore_n 1, 1) := by decide +kernel
theorem dX6_never_32 : decode cX6_never 32 = .ok (.iconst 1, 1) := by decide +kernel
theorem dX6_never_33 : decode cX6_never 33 = .ok (.istore_n 2, 1) := by decide +kernel
theorem dX6_never_34 : decode cX6_never 34 = .ok (.iload_n 2, 1) := by decide +kernel
theorem dX6_never_35 : decode cX6_never 35 = .ok (.bipush 60, 2) := by decide +kernel
theorem dX6_never_37 : decode cX6_never 37 = .ok (.if_icmp .gt 28, 3) := by decide +kernel
theorem dX6_never_40 : decode cX6_never 40 = .ok (.aload_n 0, 1) := by decide +kernel
theorem dX6_never_41 : decode cX6_never 41 = .ok (.getfield 26, 3) := by decide +kernel
theorem dX6_never_44 : decode cX6_never 44 = .ok (.bipush 15, 2) := by decide +kernel
theorem dX6_never_46 : decode cX6_never 46 = .ok (.invokevirtual 145, 3) := by decide +kernel
theorem dX6_never_49 : decode cX6_never 49 = .ok (.iload_n 1, 1) := by decide +kernel
theorem dX6_never_50 : decode cX6_never 50 = .ok (.aload_n 0, 1) := by decide +kernel
theorem dX6_never_51 : decode cX6_never 51 = .ok (.getfield 26, 3) := by decide +kernel
theorem dX6_never_54 : decode cX6_never 54 = .ok (.invokevirtual 149, 3) := by decide +kernel
theorem dX6_never_57 : decode cX6_never 57 = .ok (.ior, 1) := by decide +kernel
theorem dX6_never_58 : decode cX6_never 58 = .ok (.istore_n 1, 1) := by decide +kernel
theorem dX6_never_59 : decode cX6_never 59 = .ok (.iinc 2 1, 3) := by decide +kernel
theorem dX6_never_62 : decode cX6_never 62 = .ok (.goto (-28), 3) := by decide +kernel
theorem dX6_never_65 : decode cX6_never 65 = .ok (.iconst 1, 1) := by decide +kernel
theorem dX6_never_66 : decode cX6_never 66 = .ok (.aload_n 0, 1) := by decide +kernel
theorem dX6_never_67 : decode cX6_never 67 = .ok (.getfield 22, 3) := by decide +kernel
theorem dX6_never_70 : decode cX6_never 70 = .ok (.getfield 132, 3) := by decide +kernel
theorem dX6_never_73 : decode cX6_never 73 = .ok (.ishl, 1) := by decide +kernel
theorem dX6_never_74 : decode cX6_never 74 = .ok (.iconst 1, 1) := by decide +kernel
theorem dX6_never_75 : decode cX6_never 75 = .ok (.isub, 1) := by decide +kernel
theorem dX6_never_76 : decode cX6_never 76 = .ok (.iload_n 1, 1) := by decide +kernel
theorem dX6_never_77 : decode cX6_never 77 = .ok (.iconst (-1), 1) := by decide +kernel
theorem dX6_never_78 : decode cX6_never 78 = .ok (.ixor, 1) := by decide +kernel
theorem dX6_never_79 : decode cX6_never 79 = .ok (.iand, 1) := by decide +kernel
theorem dX6_never_80 : decode cX6_never 80 = .ok (.ireturn, 1) := by decide +kernel
theorem dX6_best_0 : decode cX6_best 0 = .ok (.aload_n 0, 1) := by decide +kernel
theorem dX6_best_1 : decode cX6_best 1 = .ok (.getfield 22, 3) := by decide +kernel
theorem dX6_best_4 : decode cX6_best 4 = .ok (.invokevirtual 135, 3) := by decide +kernel
theorem dX6_best_7 : decode cX6_best 7 = .ok (.ifCond .ne 6, 3) := by decide +kernel
theorem dX6_best_10 : decode cX6_best 10 = .ok (.ldc 138, 2) := by decide +kernel
theorem dX6_best_12 : decode cX6_best 12 = .ok (.ireturn, 1) := by decide +kernel
theorem dX6_best_13 : decode cX6_best 13 = .ok (.iload_n 1, 1) := by decide +kernel
theorem dX6_best_14 : decode cX6_best 14 = .ok (.iconst 0, 1) := by decide +kernel
theorem dX6_best_15 : decode cX6_best 15 = .ok (.bipush 60, 2) := by decide +kernel
theorem dX6_best_17 : decode cX6_best 17 = .ok (.invokestatic 58, 3) := by decide +kernel
theorem dX6_best_20 : decode cX6_best 20 = .ok (.ifCond .eq 13, 3) := by decide +kernel
theorem dX6_best_23 : decode cX6_best 23 = .ok (.iload_n 2, 1) := by decide +kernel
theorem dX6_best_24 : decode cX6_best 24 = .ok (.bipush (-2), 2) := by decide +kernel
theorem dX6_best_26 : decode cX6_best 26 = .ok (.iconst 3, 1) := by decide +kernel
theorem dX6_best_27 : decode cX6_best 27 = .ok (.invokestatic 58, 3) := by decide +kernel
theorem dX6_best_30 : decode cX6_best 30 = .ok (.ifCond .ne 6, 3) := by decide +kernel
theorem dX6_best_33 : decode cX6_best 33 = .ok (.ldc 62, 2) := by decide +kernel
theorem dX6_best_35 : decode cX6_best 35 = .ok (.ireturn, 1) := by decide +kernel
theorem dX6_best_36 : decode cX6_best 36 = .ok (.aload_n 0, 1) := by decide +kernel
theorem dX6_best_37 : decode cX6_best 37 = .ok (.getfield 46, 3) := by decide +kernel
theorem dX6_best_40 : decode cX6_best 40 = .ok (.aload_n 0, 1) := by decide +kernel
theorem dX6_best_41 : decode cX6_best 41 = .ok (.getfield 22, 3) := by decide +kernel
theorem dX6_best_44 : decode cX6_best 44 = .ok (.iload_n 1, 1) := by decide +kernel
theorem dX6_best_45 : decode cX6_best 45 = .ok (.invokevirtual 205, 3) := by decide +kernel
theorem dX6_best_48 : decode cX6_best 48 = .ok (.iload_n 2, 1) := by decide +kernel
theorem dX6_best_49 : decode cX6_best 49 = .ok (.bipush (-2), 2) := by decide +kernel
theorem dX6_best_51 : decode cX6_best 51 = .ok (.if_icmp .ne 11, 3) := by decide +kernel
theorem dX6_best_54 : decode cX6_best 54 = .ok (.aload_n 0, 1) := by decide +kernel
theorem dX6_best_55 : decode cX6_best 55 = .ok (.getfield 46, 3) := by decide +kernel
theorem dX6_best_58 : decode cX6_best 58 = .ok (.getfield 209, 3) := by decide +kernel
theorem dX6_best_61 : decode cX6_best 61 = .ok (.ireturn, 1) := by decide +kernel
theorem dX6_best_62 : decode cX6_best 62 = .ok (.iload_n 2, 1) := by decide +kernel
theorem dX6_best_63 : decode cX6_best 63 = .ok (.iconst (-1), 1) := by decide +kernel
theorem dX6_best_64 : decode cX6_best 64 = .ok (.if_icmp .ne 13, 3) := by decide +kernel
theorem dX6_best_67 : decode cX6_best 67 = .ok (.aload_n 0, 1) := by decide +kernel
theorem dX6_best_68 : decode cX6_best 68 = .ok (.getfield 46, 3) := by decide +kernel
theorem dX6_best_71 : decode cX6_best 71 = .ok (.getfield 212, 3) := by decide +kernel
theorem dX6_best_74 : decode cX6_best 74 = .ok (.goto 8, 3) := by decide +kernel
theorem dX6_best_77 : decode cX6_best 77 = .ok (.aload_n 0, 1) := by decide +kernel
theorem dX6_best_78 : decode cX6_best 78 = .ok (.iload_n 2, 1) := by decide +kernel
theorem dX6_best_79 : decode cX6_best 79 = .ok (.invokevirtual 214, 3) := by decide +kernel
theorem dX6_best_82 : decode cX6_best 82 = .ok (.ireturn, 1) := by decide +kernel
end
section
theorem dX6_fewest_0 : decode cX6_fewest 0 = .ok (.aload_n 0, 1) := by decide +kernel
theorem dX6_fewest_1 : decode cX6_fewest 1 = .ok (.getfield 22, 3) := by decide +kernel
theorem dX6_fewest_4 : decode cX6_fewest 4 = .ok (.invokevirtual 135, 3) := by decide +kernel
theorem dX6_fewest_7 : decode cX6_fewest 7 = .ok (.ifCond .ne 6, 3) := by decide +kernel
theorem dX6_fewest_10 : decode cX6_fewest 10 = .ok (.ldc 138, 2) := by decide +kernel
theorem dX6_fewest_12 : decode cX6_fewest 12 = .ok (.ireturn, 1) := by decide +kernel
theorem dX6_fewest_13 : decode cX6_fewest 13 = .ok (.aload_n 0, 1) := by decide +kernel
theorem dX6_fewest_14 : decode cX6_fewest 14 = .ok (.getfield 22, 3) := by decide +kernel
theorem dX6_fewest_17 : decode cX6_fewest 17 = .ok (.iload_n 1, 1) := by decide +kernel
theorem dX6_fewest_18 : decode cX6_fewest 18 = .ok (.invokevirtual 202, 3) := by decide +kernel
theorem dX6_fewest_21 : decode cX6_fewest 21 = .ok (.ifCond .eq 22, 3) := by decide +kernel
theorem dX6_fewest_24 : decode cX6_fewest 24 = .ok (.iload_n 2, 1) := by decide +kernel
theorem dX6_fewest_25 : decode cX6_fewest 25 = .ok (.iconst 0, 1) := by decide +kernel
theorem dX6_fewest_26 : decode cX6_fewest 26 = .ok (.bipush 60, 2) := by decide +kernel
theorem dX6_fewest_28 : decode cX6_fewest 28 = .ok (.invokestatic 58, 3) := by decide +kernel
theorem dX6_fewest_31 : decode cX6_fewest 31 = .ok (.ifCond .eq 12, 3) := by decide +kernel
theorem dX6_fewest_34 : decode cX6_fewest 34 = .ok (.iload_n 3, 1) := by decide +kernel
theorem dX6_fewest_35 : decode cX6_fewest 35 = .ok (.iconst (-1), 1) := by decide +kernel
theorem dX6_fewest_36 : decode cX6_fewest 36 = .ok (.iconst 3, 1) := by decide +kernel
theorem dX6_fewest_37 : decode cX6_fewest 37 = .ok (.invokestatic 58, 3) := by decide +kernel
theorem dX6_fewest_40 : decode cX6_fewest 40 = .ok (.ifCond .ne 6, 3) := by decide +kernel
theorem dX6_fewest_43 : decode cX6_fewest 43 = .ok (.ldc 62, 2) := by decide +kernel
theorem dX6_fewest_45 : decode cX6_fewest 45 = .ok (.ireturn, 1) := by decide +kernel
theorem dX6_fewest_46 : decode cX6_fewest 46 = .ok (.aload_n 0, 1) := by decide +kernel
theorem dX6_fewest_47 : decode cX6_fewest 47 = .ok (.getfield 46, 3) := by decide +kernel
theorem dX6_fewest_50 : decode cX6_fewest 50 = .ok (.aload_n 0, 1) := by decide +kernel
theorem dX6_fewest_51 : decode cX6_fewest 51 = .ok (.getfield 22, 3) := by decide +kernel
theorem dX6_fewest_54 : decode cX6_fewest 54 = .ok (.iload_n 1, 1) := by decide +kernel
theorem dX6_fewest_55 : decode cX6_fewest 55 = .ok (.iload_n 2, 1) := by decide +kernel
theorem dX6_fewest_56 : decode cX6_fewest 56 = .ok (.invokevirtual 217, 3) := by decide +kernel
theorem dX6_fewest_59 : decode cX6_fewest 59 = .ok (.aload_n 0, 1) := by decide +kernel
theorem dX6_fewest_60 : decode cX6_fewest 60 = .ok (.getfield 46, 3) := by decide +kernel
theorem dX6_fewest_63 : decode cX6_fewest 63 = .ok (.getfield 221, 3) := by decide +kernel
theorem dX6_fewest_66 : decode cX6_fewest 66 = .ok (.ldc 224, 2) := by decide +kernel
theorem dX6_fewest_68 : decode cX6_fewest 68 = .ok (.if_icmp .ne 6, 3) := by decide +kernel
theorem dX6_fewest_71 : decode cX6_fewest 71 = .ok (.ldc 224, 2) := by decide +kernel
theorem dX6_fewest_73 : decode cX6_fewest 73 = .ok (.ireturn, 1) := by decide +kernel
theorem dX6_fewest_74 : decode cX6_fewest 74 = .ok (.iload_n 3, 1) := by decide +kernel
theorem dX6_fewest_75 : decode cX6_fewest 75 = .ok (.iconst (-1), 1) := by decide +kernel
theorem dX6_fewest_76 : decode cX6_fewest 76 = .ok (.if_icmp .ne 13, 3) := by decide +kernel
theorem dX6_fewest_79 : decode cX6_fewest 79 = .ok (.aload_n 0, 1) := by decide +kernel
theorem dX6_fewest_80 : decode cX6_fewest 80 = .ok (.getfield 46, 3) := by decide +kernel
theorem dX6_fewest_83 : decode cX6_fewest 83 = .ok (.getfield 221, 3) := by decide +kernel
theorem dX6_fewest_86 : decode cX6_fewest 86 = .ok (.goto 8, 3) := by decide +kernel
theorem dX6_fewest_89 : decode cX6_fewest 89 = .ok (.aload_n 0, 1) := by decide +kernel
theorem dX6_fewest_90 : decode cX6_fewest 90 = .ok (.iload_n 3, 1) := by decide +kernel
theorem dX6_fewest_91 : decode cX6_fewest 91 = .ok (.invokevirtual 214, 3) := by decide +kernel
theorem dX6_fewest_94 : decode cX6_fewest 94 = .ok (.ireturn, 1) := by decide +kernel
theorem dX6_fits_0 : decode cX6_fits 0 = .ok (.aload_n 0, 1) := by decide +kernel
theorem dX6_fits_1 : decode cX6_fits 1 = .ok (.getfield 22, 3) := by decide +kernel
theorem dX6_fits_4 : decode cX6_fits 4 = .ok (.iload_n 1, 1) := by decide +kernel
theorem dX6_fits_5 : decode cX6_fits 5 = .ok (.invokevirtual 152, 3) := by decide +kernel
theorem dX6_fits_8 : decode cX6_fits 8 = .ok (.ifCond .eq 34, 3) := by decide +kernel
theorem dX6_fits_11 : decode cX6_fits 11 = .ok (.iload_n 2, 1) := by decide +kernel
theorem dX6_fits_12 : decode cX6_fits 12 = .ok (.iconst 0, 1) := by decide +kernel
theorem dX6_fits_13 : decode cX6_fits 13 = .ok (.bipush 7, 2) := by decide +kernel
theorem dX6_fits_15 : decode cX6_fits 15 = .ok (.invokestatic 58, 3) := by decide +kernel
theorem dX6_fits_18 : decode cX6_fits 18 = .ok (.ifCond .eq 24, 3) := by decide +kernel
theorem dX6_fits_21 : decode cX6_fits 21 = .ok (.iload 4, 2) := by decide +kernel
theorem dX6_fits_23 : decode cX6_fits 23 = .ok (.iconst 1, 1) := by decide +kernel
theorem dX6_fits_24 : decode cX6_fits 24 = .ok (.bipush 16, 2) := by decide +kernel
theorem dX6_fits_26 : decode cX6_fits 26 = .ok (.invokestatic 58, 3) := by decide +kernel
theorem dX6_fits_29 : decode cX6_fits 29 = .ok (.ifCond .eq 13, 3) := by decide +kernel
theorem dX6_fits_32 : decode cX6_fits 32 = .ok (.iload 5, 2) := by decide +kernel
theorem dX6_fits_34 : decode cX6_fits 34 = .ok (.iconst 0, 1) := by decide +kernel
theorem dX6_fits_35 : decode cX6_fits 35 = .ok (.iconst 2, 1) := by decide +kernel
theorem dX6_fits_36 : decode cX6_fits 36 = .ok (.invokestatic 58, 3) := by decide +kernel
theorem dX6_fits_39 : decode cX6_fits 39 = .ok (.ifCond .ne 6, 3) := by decide +kernel
theorem dX6_fits_42 : decode cX6_fits 42 = .ok (.ldc 62, 2) := by decide +kernel
theorem dX6_fits_44 : decode cX6_fits 44 = .ok (.ireturn, 1) := by decide +kernel
theorem dX6_fits_45 : decode cX6_fits 45 = .ok (.aload_n 0, 1) := by decide +kernel
theorem dX6_fits_46 : decode cX6_fits 46 = .ok (.getfield 11, 3) := by decide +kernel
theorem dX6_fits_49 : decode cX6_fits 49 = .ok (.iload_n 2, 1) := by decide +kernel
theorem dX6_fits_50 : decode cX6_fits 50 = .ok (.aaload, 1) := by decide +kernel
theorem dX6_fits_51 : decode cX6_fits 51 = .ok (.astore 6, 2) := by decide +kernel
theorem dX6_fits_53 : decode cX6_fits 53 = .ok (.aload 6, 2) := by decide +kernel
theorem dX6_fits_55 : decode cX6_fits 55 = .ok (.invokevirtual 74, 3) := by decide +kernel
theorem dX6_fits_58 : decode cX6_fits 58 = .ok (.ifCond .eq 9, 3) := by decide +kernel
theorem dX6_fits_61 : decode cX6_fits 61 = .ok (.aload_n 0, 1) := by decide +kernel
theorem dX6_fits_62 : decode cX6_fits 62 = .ok (.iconst 1, 1) := by decide +kernel
theorem dX6_fits_63 : decode cX6_fits 63 = .ok (.invokevirtual 63, 3) := by decide +kernel
theorem dX6_fits_66 : decode cX6_fits 66 = .ok (.ireturn, 1) := by decide +kernel
theorem dX6_fits_67 : decode cX6_fits 67 = .ok (.aload 6, 2) := by decide +kernel
theorem dX6_fits_69 : decode cX6_fits 69 = .ok (.iload_n 3, 1) := by decide +kernel
theorem dX6_fits_70 : decode cX6_fits 70 = .ok (.iload 4, 2) := by decide +kernel
theorem dX6_fits_72 : decode cX6_fits 72 = .ok (.invokevirtual 78, 3) := by decide +kernel
theorem dX6_fits_75 : decode cX6_fits 75 = .ok (.ifCond .ne 9, 3) := by decide +kernel
theorem dX6_fits_78 : decode cX6_fits 78 = .ok (.aload_n 0, 1) := by decide +kernel
theorem dX6_fits_79 : decode cX6_fits 79 = .ok (.iconst 2, 1) := by decide +kernel
theorem dX6_fits_80 : decode cX6_fits 80 = .ok (.invokevirtual 63, 3) := by decide +kernel
theorem dX6_fits_83 : decode cX6_fits 83 = .ok (.ireturn, 1) := by decide +kernel
theorem dX6_fits_84 : decode cX6_fits 84 = .ok (.iconst 0, 1) := by decide +kernel
theorem dX6_fits_85 : decode cX6_fits 85 = .ok (.istore 7, 2) := by decide +kernel
theorem dX6_fits_87 : decode cX6_fits 87 = .ok (.iconst 0, 1) := by decide +kernel
theorem dX6_fits_88 : decode cX6_fits 88 = .ok (.istore 8, 2) := by decide +kernel
theorem dX6_fits_90 : decode cX6_fits 90 = .ok (.iload 8, 2) := by decide +kernel
theorem dX6_fits_92 : decode cX6_fits 92 = .ok (.iconst 5, 1) := by decide +kernel
theorem dX6_fits_93 : decode cX6_fits 93 = .ok (.if_icmp .gt 46, 3) := by decide +kernel
theorem dX6_fits_96 : decode cX6_fits 96 = .ok (.aload_n 0, 1) := by decide +kernel
theorem dX6_fits_97 : decode cX6_fits 97 = .ok (.iload 8, 2) := by decide +kernel
theorem dX6_fits_99 : decode cX6_fits 99 = .ok (.iload 5, 2) := by decide +kernel
theorem dX6_fits_101 : decode cX6_fits 101 = .ok (.invokevirtual 225, 3) := by decide +kernel
theorem dX6_fits_104 : decode cX6_fits 104 = .ok (.ifCond .eq 29, 3) := by decide +kernel
theorem dX6_fits_107 : decode cX6_fits 107 = .ok (.aload_n 0, 1) := by decide +kernel
theorem dX6_fits_108 : decode cX6_fits 108 = .ok (.iload_n 1, 1) := by decide +kernel
theorem dX6_fits_109 : decode cX6_fits 109 = .ok (.iload 5, 2) := by decide +kernel
theorem dX6_fits_111 : decode cX6_fits 111 = .ok (.iload 8, 2) := by decide +kernel
theorem dX6_fits_113 : decode cX6_fits 113 = .ok (.aload 6, 2) := by decide +kernel
theorem dX6_fits_115 : decode cX6_fits 115 = .ok (.iload_n 3, 1) := by decide +kernel
theorem dX6_fits_116 : decode cX6_fits 116 = .ok (.iload 4, 2) := by decide +kernel
theorem dX6_fits_118 : decode cX6_fits 118 = .ok (.invokevirtual 228, 3) := by decide +kernel
theorem dX6_fits_121 : decode cX6_fits 121 = .ok (.ifCond .eq 12, 3) := by decide +kernel
theorem dX6_fits_124 : decode cX6_fits 124 = .ok (.iload 7, 2) := by decide +kernel
theorem dX6_fits_126 : decode cX6_fits 126 = .ok (.iconst 1, 1) := by decide +kernel
theorem dX6_fits_127 : decode cX6_fits 127 = .ok (.iload 8, 2) := by decide +kernel
theorem dX6_fits_129 : decode cX6_fits 129 = .ok (.ishl, 1) := by decide +kernel
theorem dX6_fits_130 : decode cX6_fits 130 = .ok (.ior, 1) := by decide +kernel
theorem dX6_fits_131 : decode cX6_fits 131 = .ok (.istore 7, 2) := by decide +kernel
theorem dX6_fits_133 : decode cX6_fits 133 = .ok (.iinc 8 1, 3) := by decide +kernel
theorem dX6_fits_136 : decode cX6_fits 136 = .ok (.goto (-46), 3) := by decide +kernel
theorem dX6_fits_139 : decode cX6_fits 139 = .ok (.aload_n 0, 1) := by decide +kernel
theorem dX6_fits_140 : decode cX6_fits 140 = .ok (.iload 7, 2) := by decide +kernel
theorem dX6_fits_142 : decode cX6_fits 142 = .ok (.invokevirtual 71, 3) := by decide +kernel
theorem dX6_fits_145 : decode cX6_fits 145 = .ok (.ireturn, 1) := by decide +kernel
theorem dX6_nods_0 : decode cX6_nods 0 = .ok (.aload_n 0, 1) := by decide +kernel
theorem dX6_nods_1 : decode cX6_nods 1 = .ok (.getfield 22, 3) := by decide +kernel
theorem dX6_nods_4 : decode cX6_nods 4 = .ok (.invokevirtual 135, 3) := by decide +kernel
theorem dX6_nods_7 : decode cX6_nods 7 = .ok (.ifCond .ne 6, 3) := by decide +kernel
theorem dX6_nods_10 : decode cX6_nods 10 = .ok (.ldc 138, 2) := by decide +kernel
theorem dX6_nods_12 : decode cX6_nods 12 = .ok (.ireturn, 1) := by decide +kernel
theorem dX6_nods_13 : decode cX6_nods 13 = .ok (.iload_n 1, 1) := by decide +kernel
theorem dX6_nods_14 : decode cX6_nods 14 = .ok (.iconst 0, 1) := by decide +kernel
theorem dX6_nods_15 : decode cX6_nods 15 = .ok (.iconst 5, 1) := by decide +kernel
theorem dX6_nods_16 : decode cX6_nods 16 = .ok (.invokestatic 58, 3) := by decide +kernel
theorem dX6_nods_19 : decode cX6_nods 19 = .ok (.ifCond .eq 22, 3) := by decide +kernel
theorem dX6_nods_22 : decode cX6_nods 22 = .ok (.iload_n 2, 1) := by decide +kernel
theorem dX6_nods_23 : decode cX6_nods 23 = .ok (.iconst 0, 1) := by decide +kernel
theorem dX6_nods_24 : decode cX6_nods 24 = .ok (.bipush 10, 2) := by decide +kernel
theorem dX6_nods_26 : decode cX6_nods 26 = .ok (.invokestatic 58, 3) := by decide +kernel
theorem dX6_nods_29 : decode cX6_nods 29 = .ok (.ifCond .eq 12, 3) := by decide +kernel
theorem dX6_nods_32 : decode cX6_nods 32 = .ok (.iload_n 3, 1) := by decide +kernel
theorem dX6_nods_33 : decode cX6_nods 33 = .ok (.iconst 0, 1) := by decide +kernel
theorem dX6_nods_34 : decode cX6_nods 34 = .ok (.iconst 1, 1) := by decide +kernel
theorem dX6_nods_35 : decode cX6_nods 35 = .ok (.invokestatic 58, 3) := by decide +kernel
theorem dX6_nods_38 : decode cX6_nods 38 = .ok (.ifCond .ne 6, 3) := by decide +kernel
theorem dX6_nods_41 : decode cX6_nods 41 = .ok (.ldc 62, 2) := by decide +kernel
theorem dX6_nods_43 : decode cX6_nods 43 = .ok (.ireturn, 1) := by decide +kernel
theorem dX6_nods_44 : decode cX6_nods 44 = .ok (.iconst 0, 1) := by decide +kernel
theorem dX6_nods_45 : decode cX6_nods 45 = .ok (.istore 4, 2) := by decide +kernel
theorem dX6_nods_47 : decode cX6_nods 47 = .ok (.iconst 1, 1) := by decide +kernel
theorem dX6_nods_48 : decode cX6_nods 48 = .ok (.istore 5, 2) := by decide +kernel
theorem dX6_nods_50 : decode cX6_nods 50 = .ok (.iconst 0, 1) := by decide +kernel
theorem dX6_nods_51 : decode cX6_nods 51 = .ok (.istore 6, 2) := by decide +kernel
theorem dX6_nods_53 : decode cX6_nods 53 = .ok (.iload 6, 2) := by decide +kernel
theorem dX6_nods_55 : decode cX6_nods 55 = .ok (.aload_n 0, 1) := by decide +kernel
theorem dX6_nods_56 : decode cX6_nods 56 = .ok (.getfield 22, 3) := by decide +kernel
theorem dX6_nods_59 : decode cX6_nods 59 = .ok (.getfield 232, 3) := by decide +kernel
theorem dX6_nods_62 : decode cX6_nods 62 = .ok (.if_icmp .ge 16, 3) := by decide +kernel
theorem dX6_nods_65 : decode cX6_nods 65 = .ok (.iload 5, 2) := by decide +kernel
theorem dX6_nods_67 : decode cX6_nods 67 = .ok (.bipush 10, 2) := by decide +kernel
theorem dX6_nods_69 : decode cX6_nods 69 = .ok (.imul, 1) := by decide +kernel
theorem dX6_nods_70 : decode cX6_nods 70 = .ok (.istore 5, 2) := by decide +kernel
theorem dX6_nods_72 : decode cX6_nods 72 = .ok (.iinc 6 1, 3) := by decide +kernel
theorem dX6_nods_75 : decode cX6_nods 75 = .ok (.goto (-22), 3) := by decide +kernel
theorem dX6_nods_78 : decode cX6_nods 78 = .ok (.iconst 0, 1) := by decide +kernel
theorem dX6_nods_79 : decode cX6_nods 79 = .ok (.istore 6, 2) := by decide +kernel
theorem dX6_nods_81 : decode cX6_nods 81 = .ok (.iload 6, 2) := by decide +kernel
theorem dX6_nods_83 : decode cX6_nods 83 = .ok (.iconst 1, 1) := by decide +kernel
theorem dX6_nods_84 : decode cX6_nods 84 = .ok (.aload_n 0, 1) := by decide +kernel
theorem dX6_nods_85 : decode cX6_nods 85 = .ok (.getfield 22, 3) := by decide +kernel
theorem dX6_nods_88 : decode cX6_nods 88 = .ok (.getfield 232, 3) := by decide +kernel
theorem dX6_nods_91 : decode cX6_nods 91 = .ok (.ishl, 1) := by decide +kernel
theorem dX6_nods_92 : decode cX6_nods 92 = .ok (.if_icmp .ge 55, 3) := by decide +kernel
theorem dX6_nods_95 : decode cX6_nods 95 = .ok (.aload_n 0, 1) := by decide +kernel
theorem dX6_nods_96 : decode cX6_nods 96 = .ok (.getfield 26, 3) := by decide +kernel
theorem dX6_nods_99 : decode cX6_nods 99 = .ok (.aload_n 0, 1) := by decide +kernel
theorem dX6_nods_100 : decode cX6_nods 100 = .ok (.getfield 22, 3) := by decide +kernel
theorem dX6_nods_103 : decode cX6_nods 103 = .ok (.invokevirtual 126, 3) := by decide +kernel
theorem dX6_nods_106 : decode cX6_nods 106 = .ok (.aload_n 0, 1) := by decide +kernel
theorem dX6_nods_107 : decode cX6_nods 107 = .ok (.getfield 26, 3) := by decide +kernel
theorem dX6_nods_110 : decode cX6_nods 110 = .ok (.iload 6, 2) := by decide +kernel
theorem dX6_nods_112 : decode cX6_nods 112 = .ok (.invokevirtual 145, 3) := by decide +kernel
theorem dX6_nods_115 : decode cX6_nods 115 = .ok (.aload_n 0, 1) := by decide +kernel
theorem dX6_nods_116 : decode cX6_nods 116 = .ok (.getfield 26, 3) := by decide +kernel
theorem dX6_nods_119 : decode cX6_nods 119 = .ok (.invokevirtual 149, 3) := by decide +kernel
theorem dX6_nods_122 : decode cX6_nods 122 = .ok (.invokestatic 235, 3) := by decide +kernel
theorem dX6_nods_125 : decode cX6_nods 125 = .ok (.iload_n 1, 1) := by decide +kernel
theorem dX6_nods_126 : decode cX6_nods 126 = .ok (.if_icmp .lt 15, 3) := by decide +kernel
theorem dX6_nods_129 : decode cX6_nods 129 = .ok (.iload 4, 2) := by decide +kernel
theorem dX6_nods_131 : decode cX6_nods 131 = .ok (.aload_n 0, 1) := by decide +kernel
theorem dX6_nods_132 : decode cX6_nods 132 = .ok (.iload 6, 2) := by decide +kernel
theorem dX6_nods_134 : decode cX6_nods 134 = .ok (.iload_n 2, 1) := by decide +kernel
theorem dX6_nods_135 : decode cX6_nods 135 = .ok (.invokevirtual 240, 3) := by decide +kernel
theorem dX6_nods_138 : decode cX6_nods 138 = .ok (.iadd, 1) := by decide +kernel
theorem dX6_nods_139 : decode cX6_nods 139 = .ok (.istore 4, 2) := by decide +kernel
theorem dX6_nods_141 : decode cX6_nods 141 = .ok (.iinc 6 1, 3) := by decide +kernel
theorem dX6_nods_144 : decode cX6_nods 144 = .ok (.goto (-63), 3) := by decide +kernel
theorem dX6_nods_147 : decode cX6_nods 147 = .ok (.iload 4, 2) := by decide +kernel
theorem dX6_nods_149 : decode cX6_nods 149 = .ok (.iload 5, 2) := by decide +kernel
theorem dX6_nods_151 : decode cX6_nods 151 = .ok (.invokestatic 243, 3) := by decide +kernel
theorem dX6_nods_154 : decode cX6_nods 154 = .ok (.istore 6, 2) := by decide +kernel
theorem dX6_nods_156 : decode cX6_nods 156 = .ok (.iload_n 3, 1) := by decide +kernel
theorem dX6_nods_157 : decode cX6_nods 157 = .ok (.ifCond .ne 8, 3) := by decide +kernel
theorem dX6_nods_160 : decode cX6_nods 160 = .ok (.iload 4, 2) := by decide +kernel
theorem dX6_nods_162 : decode cX6_nods 162 = .ok (.goto 5, 3) := by decide +kernel
theorem dX6_nods_165 : decode cX6_nods 165 = .ok (.iload 5, 2) := by decide +kernel
theorem dX6_nods_167 : decode cX6_nods 167 = .ok (.iconst 1, 1) := by decide +kernel
theorem dX6_nods_168 : decode cX6_nods 168 = .ok (.iload 6, 2) := by decide +kernel
theorem dX6_nods_170 : decode cX6_nods 170 = .ok (.invokestatic 246, 3) := by decide +kernel
theorem dX6_nods_173 : decode cX6_nods 173 = .ok (.idiv, 1) := by decide +kernel
theorem dX6_nods_174 : decode cX6_nods 174 = .ok (.ireturn, 1) := by decide +kernel
theorem dX6_drawn_0 : decode cX6_drawn 0 = .ok (.aload_n 0, 1) := by decide +kernel
theorem dX6_drawn_1 : decode cX6_drawn 1 = .ok (.getfield 22, 3) := by decide +kernel
theorem dX6_drawn_4 : decode cX6_drawn 4 = .ok (.invokevirtual 135, 3) := by decide +kernel
theorem dX6_drawn_7 : decode cX6_drawn 7 = .ok (.ifCond .ne 6, 3) := by decide +kernel
theorem dX6_drawn_10 : decode cX6_drawn 10 = .ok (.ldc 138, 2) := by decide +kernel
theorem dX6_drawn_12 : decode cX6_drawn 12 = .ok (.ireturn, 1) := by decide +kernel
theorem dX6_drawn_13 : decode cX6_drawn 13 = .ok (.iload_n 1, 1) := by decide +kernel
theorem dX6_drawn_14 : decode cX6_drawn 14 = .ok (.iconst 0, 1) := by decide +kernel
theorem dX6_drawn_15 : decode cX6_drawn 15 = .ok (.bipush 60, 2) := by decide +kernel
theorem dX6_drawn_17 : decode cX6_drawn 17 = .ok (.invokestatic 58, 3) := by decide +kernel
theorem dX6_drawn_20 : decode cX6_drawn 20 = .ok (.ifCond .eq 22, 3) := by decide +kernel
theorem dX6_drawn_23 : decode cX6_drawn 23 = .ok (.iload_n 2, 1) := by decide +kernel
theorem dX6_drawn_24 : decode cX6_drawn 24 = .ok (.iconst 1, 1) := by decide +kernel
theorem dX6_drawn_25 : decode cX6_drawn 25 = .ok (.ldc 251, 2) := by decide +kernel
theorem dX6_drawn_27 : decode cX6_drawn 27 = .ok (.invokestatic 58, 3) := by decide +kernel
theorem dX6_drawn_30 : decode cX6_drawn 30 = .ok (.ifCond .eq 12, 3) := by decide +kernel
theorem dX6_drawn_33 : decode cX6_drawn 33 = .ok (.iload_n 3, 1) := by decide +kernel
theorem dX6_drawn_34 : decode cX6_drawn 34 = .ok (.iconst 0, 1) := by decide +kernel
theorem dX6_drawn_35 : decode cX6_drawn 35 = .ok (.iconst 1, 1) := by decide +kernel
theorem dX6_drawn_36 : decode cX6_drawn 36 = .ok (.invokestatic 58, 3) := by decide +kernel
theorem dX6_drawn_39 : decode cX6_drawn 39 = .ok (.ifCond .ne 6, 3) := by decide +kernel
theorem dX6_drawn_42 : decode cX6_drawn 42 = .ok (.ldc 62, 2) := by decide +kernel
theorem dX6_drawn_44 : decode cX6_drawn 44 = .ok (.ireturn, 1) := by decide +kernel
theorem dX6_drawn_45 : decode cX6_drawn 45 = .ok (.aload_n 0, 1) := by decide +kernel
theorem dX6_drawn_46 : decode cX6_drawn 46 = .ok (.getfield 26, 3) := by decide +kernel
theorem dX6_drawn_49 : decode cX6_drawn 49 = .ok (.aload_n 0, 1) := by decide +kernel
theorem dX6_drawn_50 : decode cX6_drawn 50 = .ok (.getfield 22, 3) := by decide +kernel
theorem dX6_drawn_53 : decode cX6_drawn 53 = .ok (.invokevirtual 126, 3) := by decide +kernel
theorem dX6_drawn_56 : decode cX6_drawn 56 = .ok (.iload_n 2, 1) := by decide +kernel
theorem dX6_drawn_57 : decode cX6_drawn 57 = .ok (.i2l, 1) := by decide +kernel
theorem dX6_drawn_58 : decode cX6_drawn 58 = .ok (.lstore 4, 2) := by decide +kernel
theorem dX6_drawn_60 : decode cX6_drawn 60 = .ok (.iconst 0, 1) := by decide +kernel
theorem dX6_drawn_61 : decode cX6_drawn 61 = .ok (.istore 6, 2) := by decide +kernel
theorem dX6_drawn_63 : decode cX6_drawn 63 = .ok (.iconst 0, 1) := by decide +kernel
theorem dX6_drawn_64 : decode cX6_drawn 64 = .ok (.istore 7, 2) := by decide +kernel
theorem dX6_drawn_66 : decode cX6_drawn 66 = .ok (.iload 7, 2) := by decide +kernel
theorem dX6_drawn_68 : decode cX6_drawn 68 = .ok (.iload_n 1, 1) := by decide +kernel
theorem dX6_drawn_69 : decode cX6_drawn 69 = .ok (.if_icmp .ge 75, 3) := by decide +kernel
theorem dX6_drawn_72 : decode cX6_drawn 72 = .ok (.lload 4, 2) := by decide +kernel
theorem dX6_drawn_74 : decode cX6_drawn 74 = .ok (.ldc2_w 252, 3) := by decide +kernel
theorem dX6_drawn_77 : decode cX6_drawn 77 = .ok (.lmul, 1) := by decide +kernel
theorem dX6_drawn_78 : decode cX6_drawn 78 = .ok (.ldc2_w 254, 3) := by decide +kernel
theorem dX6_drawn_81 : decode cX6_drawn 81 = .ok (.lrem, 1) := by decide +kernel
theorem dX6_drawn_82 : decode cX6_drawn 82 = .ok (.lstore 4, 2) := by decide +kernel
theorem dX6_drawn_84 : decode cX6_drawn 84 = .ok (.aload_n 0, 1) := by decide +kernel
theorem dX6_drawn_85 : decode cX6_drawn 85 = .ok (.getfield 26, 3) := by decide +kernel
theorem dX6_drawn_88 : decode cX6_drawn 88 = .ok (.lload 4, 2) := by decide +kernel
theorem dX6_drawn_90 : decode cX6_drawn 90 = .ok (.iconst 1, 1) := by decide +kernel
theorem dX6_drawn_91 : decode cX6_drawn 91 = .ok (.aload_n 0, 1) := by decide +kernel
theorem dX6_drawn_92 : decode cX6_drawn 92 = .ok (.getfield 26, 3) := by decide +kernel
theorem dX6_drawn_95 : decode cX6_drawn 95 = .ok (.getfield 132, 3) := by decide +kernel
theorem dX6_drawn_98 : decode cX6_drawn 98 = .ok (.invokestatic 246, 3) := by decide +kernel
theorem dX6_drawn_101 : decode cX6_drawn 101 = .ok (.i2l, 1) := by decide +kernel
theorem dX6_drawn_102 : decode cX6_drawn 102 = .ok (.lrem, 1) := by decide +kernel
theorem dX6_drawn_103 : decode cX6_drawn 103 = .ok (.l2i, 1) := by decide +kernel
theorem dX6_drawn_104 : decode cX6_drawn 104 = .ok (.lload 4, 2) := by decide +kernel
theorem dX6_drawn_106 : decode cX6_drawn 106 = .ok (.ldc2_w 256, 3) := by decide +kernel
theorem dX6_drawn_109 : decode cX6_drawn 109 = .ok (.lrem, 1) := by decide +kernel
theorem dX6_drawn_110 : decode cX6_drawn 110 = .ok (.l2i, 1) := by decide +kernel
theorem dX6_drawn_111 : decode cX6_drawn 111 = .ok (.invokevirtual 161, 3) := by decide +kernel
theorem dX6_drawn_114 : decode cX6_drawn 114 = .ok (.aload_n 0, 1) := by decide +kernel
theorem dX6_drawn_115 : decode cX6_drawn 115 = .ok (.getfield 26, 3) := by decide +kernel
theorem dX6_drawn_118 : decode cX6_drawn 118 = .ok (.bipush 15, 2) := by decide +kernel
theorem dX6_drawn_120 : decode cX6_drawn 120 = .ok (.invokevirtual 145, 3) := by decide +kernel
theorem dX6_drawn_123 : decode cX6_drawn 123 = .ok (.iload 6, 2) := by decide +kernel
theorem dX6_drawn_125 : decode cX6_drawn 125 = .ok (.aload_n 0, 1) := by decide +kernel
theorem dX6_drawn_126 : decode cX6_drawn 126 = .ok (.getfield 26, 3) := by decide +kernel
theorem dX6_drawn_129 : decode cX6_drawn 129 = .ok (.invokevirtual 149, 3) := by decide +kernel
theorem dX6_drawn_132 : decode cX6_drawn 132 = .ok (.invokestatic 235, 3) := by decide +kernel
theorem dX6_drawn_135 : decode cX6_drawn 135 = .ok (.iadd, 1) := by decide +kernel
theorem dX6_drawn_136 : decode cX6_drawn 136 = .ok (.istore 6, 2) := by decide +kernel
theorem dX6_drawn_138 : decode cX6_drawn 138 = .ok (.iinc 7 1, 3) := by decide +kernel
theorem dX6_drawn_141 : decode cX6_drawn 141 = .ok (.goto (-75), 3) := by decide +kernel
theorem dX6_drawn_144 : decode cX6_drawn 144 = .ok (.iload_n 3, 1) := by decide +kernel
theorem dX6_drawn_145 : decode cX6_drawn 145 = .ok (.ifCond .ne 8, 3) := by decide +kernel
theorem dX6_drawn_148 : decode cX6_drawn 148 = .ok (.iload 6, 2) := by decide +kernel
theorem dX6_drawn_150 : decode cX6_drawn 150 = .ok (.goto 10, 3) := by decide +kernel
theorem dX6_drawn_153 : decode cX6_drawn 153 = .ok (.aload_n 0, 1) := by decide +kernel
theorem dX6_drawn_154 : decode cX6_drawn 154 = .ok (.getfield 26, 3) := by decide +kernel
theorem dX6_drawn_157 : decode cX6_drawn 157 = .ok (.invokevirtual 258, 3) := by decide +kernel
theorem dX6_drawn_160 : decode cX6_drawn 160 = .ok (.ireturn, 1) := by decide +kernel
theorem dX6_image_0 : decode cX6_image 0 = .ok (.iload_n 1, 1) := by decide +kernel
theorem dX6_image_1 : decode cX6_image 1 = .ok (.iconst 0, 1) := by decide +kernel
theorem dX6_image_2 : decode cX6_image 2 = .ok (.iconst 1, 1) := by decide +kernel
theorem dX6_image_3 : decode cX6_image 3 = .ok (.invokestatic 58, 3) := by decide +kernel
theorem dX6_image_6 : decode cX6_image 6 = .ok (.ifCond .ne 6, 3) := by decide +kernel
theorem dX6_image_9 : decode cX6_image 9 = .ok (.ldc 62, 2) := by decide +kernel
theorem dX6_image_11 : decode cX6_image 11 = .ok (.ireturn, 1) := by decide +kernel
theorem dX6_image_12 : decode cX6_image 12 = .ok (.aload_n 0, 1) := by decide +kernel
theorem dX6_image_13 : decode cX6_image 13 = .ok (.getfield 22, 3) := by decide +kernel
theorem dX6_image_16 : decode cX6_image 16 = .ok (.invokevirtual 135, 3) := by decide +kernel
theorem dX6_image_19 : decode cX6_image 19 = .ok (.ifCond .ne 6, 3) := by decide +kernel
theorem dX6_image_22 : decode cX6_image 22 = .ok (.ldc 138, 2) := by decide +kernel
theorem dX6_image_24 : decode cX6_image 24 = .ok (.ireturn, 1) := by decide +kernel
theorem dX6_image_25 : decode cX6_image 25 = .ok (.aload_n 0, 1) := by decide +kernel
theorem dX6_image_26 : decode cX6_image 26 = .ok (.getfield 17, 3) := by decide +kernel
theorem dX6_image_29 : decode cX6_image 29 = .ok (.iload_n 1, 1) := by decide +kernel
theorem dX6_image_30 : decode cX6_image 30 = .ok (.aaload, 1) := by decide +kernel
theorem dX6_image_31 : decode cX6_image 31 = .ok (.aload_n 0, 1) := by decide +kernel
theorem dX6_image_32 : decode cX6_image 32 = .ok (.getfield 22, 3) := by decide +kernel
theorem dX6_image_35 : decode cX6_image 35 = .ok (.invokevirtual 126, 3) := by decide +kernel
theorem dX6_image_38 : decode cX6_image 38 = .ok (.iconst 1, 1) := by decide +kernel
theorem dX6_image_39 : decode cX6_image 39 = .ok (.ireturn, 1) := by decide +kernel
theorem dX6_restore_0 : decode cX6_restore 0 = .ok (.iload_n 1, 1) := by decide +kernel
theorem dX6_restore_1 : decode cX6_restore 1 = .ok (.iconst 0, 1) := by decide +kernel
theorem dX6_restore_2 : decode cX6_restore 2 = .ok (.iconst 1, 1) := by decide +kernel
theorem dX6_restore_3 : decode cX6_restore 3 = .ok (.invokestatic 58, 3) := by decide +kernel
theorem dX6_restore_6 : decode cX6_restore 6 = .ok (.ifCond .ne 6, 3) := by decide +kernel
theorem dX6_restore_9 : decode cX6_restore 9 = .ok (.ldc 62, 2) := by decide +kernel
theorem dX6_restore_11 : decode cX6_restore 11 = .ok (.ireturn, 1) := by decide +kernel
theorem dX6_restore_12 : decode cX6_restore 12 = .ok (.aload_n 0, 1) := by decide +kernel
theorem dX6_restore_13 : decode cX6_restore 13 = .ok (.getfield 17, 3) := by decide +kernel
theorem dX6_restore_16 : decode cX6_restore 16 = .ok (.iload_n 1, 1) := by decide +kernel
theorem dX6_restore_17 : decode cX6_restore 17 = .ok (.aaload, 1) := by decide +kernel
theorem dX6_restore_18 : decode cX6_restore 18 = .ok (.invokevirtual 135, 3) := by decide +kernel
theorem dX6_restore_21 : decode cX6_restore 21 = .ok (.ifCond .ne 6, 3) := by decide +kernel
theorem dX6_restore_24 : decode cX6_restore 24 = .ok (.ldc 138, 2) := by decide +kernel
theorem dX6_restore_26 : decode cX6_restore 26 = .ok (.ireturn, 1) := by decide +kernel
theorem dX6_restore_27 : decode cX6_restore 27 = .ok (.aload_n 0, 1) := by decide +kernel
theorem dX6_restore_28 : decode cX6_restore 28 = .ok (.getfield 22, 3) := by decide +kernel
theorem dX6_restore_31 : decode cX6_restore 31 = .ok (.aload_n 0, 1) := by decide +kernel
theorem dX6_restore_32 : decode cX6_restore 32 = .ok (.getfield 17, 3) := by decide +kernel
theorem dX6_restore_35 : decode cX6_restore 35 = .ok (.iload_n 1, 1) := by decide +kernel
theorem dX6_restore_36 : decode cX6_restore 36 = .ok (.aaload, 1) := by decide +kernel
theorem dX6_restore_37 : decode cX6_restore 37 = .ok (.invokevirtual 126, 3) := by decide +kernel
theorem dX6_restore_40 : decode cX6_restore 40 = .ok (.aload_n 0, 1) := by decide +kernel
theorem dX6_restore_41 : decode cX6_restore 41 = .ok (.getfield 39, 3) := by decide +kernel
theorem dX6_restore_44 : decode cX6_restore 44 = .ok (.invokevirtual 129, 3) := by decide +kernel
theorem dX6_restore_47 : decode cX6_restore 47 = .ok (.iconst 1, 1) := by decide +kernel
theorem dX6_restore_48 : decode cX6_restore 48 = .ok (.ireturn, 1) := by decide +kernel
theorem dX6_kind_0 : decode cX6_kind 0 = .ok (.aload_n 0, 1) := by decide +kernel
theorem dX6_kind_1 : decode cX6_kind 1 = .ok (.getfield 22, 3) := by decide +kernel
theorem dX6_kind_4 : decode cX6_kind 4 = .ok (.iload_n 1, 1) := by decide +kernel
theorem dX6_kind_5 : decode cX6_kind 5 = .ok (.invokevirtual 152, 3) := by decide +kernel
theorem dX6_kind_8 : decode cX6_kind 8 = .ok (.ifCond .eq 15, 3) := by decide +kernel
theorem dX6_kind_11 : decode cX6_kind 11 = .ok (.aload_n 0, 1) := by decide +kernel
theorem dX6_kind_12 : decode cX6_kind 12 = .ok (.getfield 22, 3) := by decide +kernel
theorem dX6_kind_15 : decode cX6_kind 15 = .ok (.getfield 261, 3) := by decide +kernel
theorem dX6_kind_18 : decode cX6_kind 18 = .ok (.iload_n 1, 1) := by decide +kernel
theorem dX6_kind_19 : decode cX6_kind 19 = .ok (.iaload, 1) := by decide +kernel
theorem dX6_kind_20 : decode cX6_kind 20 = .ok (.goto 5, 3) := by decide +kernel
theorem dX6_kind_23 : decode cX6_kind 23 = .ok (.ldc 62, 2) := by decide +kernel
theorem dX6_kind_25 : decode cX6_kind 25 = .ok (.ireturn, 1) := by decide +kernel
theorem dX6_as_0 : decode cX6_as 0 = .ok (.aload_n 0, 1) := by decide +kernel
theorem dX6_as_1 : decode cX6_as 1 = .ok (.getfield 22, 3) := by decide +kernel
theorem dX6_as_4 : decode cX6_as 4 = .ok (.iload_n 1, 1) := by decide +kernel
theorem dX6_as_5 : decode cX6_as 5 = .ok (.invokevirtual 152, 3) := by decide +kernel
theorem dX6_as_8 : decode cX6_as 8 = .ok (.ifCond .eq 12, 3) := by decide +kernel
theorem dX6_as_11 : decode cX6_as 11 = .ok (.iload_n 2, 1) := by decide +kernel
theorem dX6_as_12 : decode cX6_as 12 = .ok (.iconst 0, 1) := by decide +kernel
theorem dX6_as_13 : decode cX6_as 13 = .ok (.iconst 5, 1) := by decide +kernel
theorem dX6_as_14 : decode cX6_as 14 = .ok (.invokestatic 58, 3) := by decide +kernel
theorem dX6_as_17 : decode cX6_as 17 = .ok (.ifCond .ne 6, 3) := by decide +kernel
theorem dX6_as_20 : decode cX6_as 20 = .ok (.ldc 62, 2) := by decide +kernel
theorem dX6_as_22 : decode cX6_as 22 = .ok (.ireturn, 1) := by decide +kernel
theorem dX6_as_23 : decode cX6_as 23 = .ok (.aload_n 0, 1) := by decide +kernel
theorem dX6_as_24 : decode cX6_as 24 = .ok (.getfield 22, 3) := by decide +kernel
theorem dX6_as_27 : decode cX6_as 27 = .ok (.getfield 261, 3) := by decide +kernel
theorem dX6_as_30 : decode cX6_as 30 = .ok (.iload_n 1, 1) := by decide +kernel
theorem dX6_as_31 : decode cX6_as 31 = .ok (.iaload, 1) := by decide +kernel
theorem dX6_as_32 : decode cX6_as 32 = .ok (.iload_n 2, 1) := by decide +kernel
theorem dX6_as_33 : decode cX6_as 33 = .ok (.invokestatic 264, 3) := by decide +kernel
theorem dX6_as_36 : decode cX6_as 36 = .ok (.ifCond .ne 9, 3) := by decide +kernel
theorem dX6_as_39 : decode cX6_as 39 = .ok (.aload_n 0, 1) := by decide +kernel
theorem dX6_as_40 : decode cX6_as 40 = .ok (.iconst 3, 1) := by decide +kernel
theorem dX6_as_41 : decode cX6_as 41 = .ok (.invokevirtual 63, 3) := by decide +kernel
theorem dX6_as_44 : decode cX6_as 44 = .ok (.ireturn, 1) := by decide +kernel
theorem dX6_as_45 : decode cX6_as 45 = .ok (.aload_n 0, 1) := by decide +kernel
theorem dX6_as_46 : decode cX6_as 46 = .ok (.iload_n 1, 1) := by decide +kernel
theorem dX6_as_47 : decode cX6_as 47 = .ok (.invokevirtual 71, 3) := by decide +kernel
theorem dX6_as_50 : decode cX6_as 50 = .ok (.ireturn, 1) := by decide +kernel
theorem dX6_ask_0 : decode cX6_ask 0 = .ok (.aload_n 0, 1) := by decide +kernel
theorem dX6_ask_1 : decode cX6_ask 1 = .ok (.getfield 22, 3) := by decide +kernel
theorem dX6_ask_4 : decode cX6_ask 4 = .ok (.iload_n 1, 1) := by decide +kernel
theorem dX6_ask_5 : decode cX6_ask 5 = .ok (.invokevirtual 152, 3) := by decide +kernel
theorem dX6_ask_8 : decode cX6_ask 8 = .ok (.ifCond .eq 12, 3) := by decide +kernel
theorem dX6_ask_11 : decode cX6_ask 11 = .ok (.iload_n 2, 1) := by decide +kernel
theorem dX6_ask_12 : decode cX6_ask 12 = .ok (.iconst 0, 1) := by decide +kernel
theorem dX6_ask_13 : decode cX6_ask 13 = .ok (.iconst 1, 1) := by decide +kernel
theorem dX6_ask_14 : decode cX6_ask 14 = .ok (.invokestatic 58, 3) := by decide +kernel
theorem dX6_ask_17 : decode cX6_ask 17 = .ok (.ifCond .ne 6, 3) := by decide +kernel
theorem dX6_ask_20 : decode cX6_ask 20 = .ok (.ldc 62, 2) := by decide +kernel
theorem dX6_ask_22 : decode cX6_ask 22 = .ok (.ireturn, 1) := by decide +kernel
theorem dX6_ask_23 : decode cX6_ask 23 = .ok (.aload_n 0, 1) := by decide +kernel
theorem dX6_ask_24 : decode cX6_ask 24 = .ok (.getfield 53, 3) := by decide +kernel
theorem dX6_ask_27 : decode cX6_ask 27 = .ok (.aload_n 0, 1) := by decide +kernel
theorem dX6_ask_28 : decode cX6_ask 28 = .ok (.getfield 22, 3) := by decide +kernel
theorem dX6_ask_31 : decode cX6_ask 31 = .ok (.iload_n 1, 1) := by decide +kernel
theorem dX6_ask_32 : decode cX6_ask 32 = .ok (.iload_n 2, 1) := by decide +kernel
theorem dX6_ask_33 : decode cX6_ask 33 = .ok (.invokevirtual 267, 3) := by decide +kernel
theorem dX6_ask_36 : decode cX6_ask 36 = .ok (.ireturn, 1) := by decide +kernel
theorem dX6_trace_0 : decode cX6_trace 0 = .ok (.iload_n 1, 1) := by decide +kernel
theorem dX6_trace_1 : decode cX6_trace 1 = .ok (.iconst 0, 1) := by decide +kernel
theorem dX6_trace_2 : decode cX6_trace 2 = .ok (.aload_n 0, 1) := by decide +kernel
theorem dX6_trace_3 : decode cX6_trace 3 = .ok (.getfield 53, 3) := by decide +kernel
theorem dX6_trace_6 : decode cX6_trace 6 = .ok (.getfield 271, 3) := by decide +kernel
theorem dX6_trace_9 : decode cX6_trace 9 = .ok (.iconst 1, 1) := by decide +kernel
theorem dX6_trace_10 : decode cX6_trace 10 = .ok (.isub, 1) := by decide +kernel
theorem dX6_trace_11 : decode cX6_trace 11 = .ok (.invokestatic 58, 3) := by decide +kernel
theorem dX6_trace_14 : decode cX6_trace 14 = .ok (.ifCond .eq 15, 3) := by decide +kernel
theorem dX6_trace_17 : decode cX6_trace 17 = .ok (.aload_n 0, 1) := by decide +kernel
theorem dX6_trace_18 : decode cX6_trace 18 = .ok (.getfield 53, 3) := by decide +kernel
theorem dX6_trace_21 : decode cX6_trace 21 = .ok (.getfield 274, 3) := by decide +kernel
theorem dX6_trace_24 : decode cX6_trace 24 = .ok (.iload_n 1, 1) := by decide +kernel
theorem dX6_trace_25 : decode cX6_trace 25 = .ok (.iaload, 1) := by decide +kernel
theorem dX6_trace_26 : decode cX6_trace 26 = .ok (.goto 5, 3) := by decide +kernel
theorem dX6_trace_29 : decode cX6_trace 29 = .ok (.ldc 224, 2) := by decide +kernel
theorem dX6_trace_31 : decode cX6_trace 31 = .ok (.ireturn, 1) := by decide +kernel
theorem dX6_count_0 : decode cX6_count 0 = .ok (.iload_n 1, 1) := by decide +kernel
theorem dX6_count_1 : decode cX6_count 1 = .ok (.tableswitch 108 0 7 #[47, 52, 60, 68, 76, 84, 92, 100], 47) := by decide +kernel
theorem dX6_count_48 : decode cX6_count 48 = .ok (.aload_n 0, 1) := by decide +kernel
theorem dX6_count_49 : decode cX6_count 49 = .ok (.invokevirtual 277, 3) := by decide +kernel
theorem dX6_count_52 : decode cX6_count 52 = .ok (.ireturn, 1) := by decide +kernel
theorem dX6_count_53 : decode cX6_count 53 = .ok (.aload_n 0, 1) := by decide +kernel
theorem dX6_count_54 : decode cX6_count 54 = .ok (.getfield 22, 3) := by decide +kernel
theorem dX6_count_57 : decode cX6_count 57 = .ok (.getfield 132, 3) := by decide +kernel
theorem dX6_count_60 : decode cX6_count 60 = .ok (.ireturn, 1) := by decide +kernel
theorem dX6_count_61 : decode cX6_count 61 = .ok (.aload_n 0, 1) := by decide +kernel
theorem dX6_count_62 : decode cX6_count 62 = .ok (.getfield 22, 3) := by decide +kernel
theorem dX6_count_65 : decode cX6_count 65 = .ok (.getfield 232, 3) := by decide +kernel
theorem dX6_count_68 : decode cX6_count 68 = .ok (.ireturn, 1) := by decide +kernel
theorem dX6_count_69 : decode cX6_count 69 = .ok (.aload_n 0, 1) := by decide +kernel
theorem dX6_count_70 : decode cX6_count 70 = .ok (.getfield 22, 3) := by decide +kernel
theorem dX6_count_73 : decode cX6_count 73 = .ok (.getfield 139, 3) := by decide +kernel
theorem dX6_count_76 : decode cX6_count 76 = .ok (.ireturn, 1) := by decide +kernel
theorem dX6_count_77 : decode cX6_count 77 = .ok (.aload_n 0, 1) := by decide +kernel
theorem dX6_count_78 : decode cX6_count 78 = .ok (.getfield 22, 3) := by decide +kernel
theorem dX6_count_81 : decode cX6_count 81 = .ok (.invokevirtual 149, 3) := by decide +kernel
theorem dX6_count_84 : decode cX6_count 84 = .ok (.ireturn, 1) := by decide +kernel
theorem dX6_count_85 : decode cX6_count 85 = .ok (.aload_n 0, 1) := by decide +kernel
theorem dX6_count_86 : decode cX6_count 86 = .ok (.getfield 22, 3) := by decide +kernel
theorem dX6_count_89 : decode cX6_count 89 = .ok (.invokevirtual 280, 3) := by decide +kernel
theorem dX6_count_92 : decode cX6_count 92 = .ok (.ireturn, 1) := by decide +kernel
theorem dX6_count_93 : decode cX6_count 93 = .ok (.aload_n 0, 1) := by decide +kernel
theorem dX6_count_94 : decode cX6_count 94 = .ok (.getfield 39, 3) := by decide +kernel
theorem dX6_count_97 : decode cX6_count 97 = .ok (.getfield 174, 3) := by decide +kernel
theorem dX6_count_100 : decode cX6_count 100 = .ok (.ireturn, 1) := by decide +kernel
theorem dX6_count_101 : decode cX6_count 101 = .ok (.aload_n 0, 1) := by decide +kernel
theorem dX6_count_102 : decode cX6_count 102 = .ok (.getfield 32, 3) := by decide +kernel
theorem dX6_count_105 : decode cX6_count 105 = .ok (.getfield 108, 3) := by decide +kernel
theorem dX6_count_108 : decode cX6_count 108 = .ok (.ireturn, 1) := by decide +kernel
theorem dX6_count_109 : decode cX6_count 109 = .ok (.ldc 62, 2) := by decide +kernel
theorem dX6_count_111 : decode cX6_count 111 = .ok (.ireturn, 1) := by decide +kernel
theorem dX6_status_0 : decode cX6_status 0 = .ok (.aload_n 0, 1) := by decide +kernel
theorem dX6_status_1 : decode cX6_status 1 = .ok (.getfield 283, 3) := by decide +kernel
theorem dX6_status_4 : decode cX6_status 4 = .ok (.ireturn, 1) := by decide +kernel
theorem dX6_isWithin_0 : decode cX6_isWithin 0 = .ok (.iload_n 0, 1) := by decide +kernel
theorem dX6_isWithin_1 : decode cX6_isWithin 1 = .ok (.iload_n 1, 1) := by decide +kernel
theorem dX6_isWithin_2 : decode cX6_isWithin 2 = .ok (.if_icmp .lt 12, 3) := by decide +kernel
theorem dX6_isWithin_5 : decode cX6_isWithin 5 = .ok (.iload_n 0, 1) := by decide +kernel
theorem dX6_isWithin_6 : decode cX6_isWithin 6 = .ok (.iload_n 2, 1) := by decide +kernel
theorem dX6_isWithin_7 : decode cX6_isWithin 7 = .ok (.if_icmp .gt 7, 3) := by decide +kernel
theorem dX6_isWithin_10 : decode cX6_isWithin 10 = .ok (.iconst 1, 1) := by decide +kernel
theorem dX6_isWithin_11 : decode cX6_isWithin 11 = .ok (.goto 4, 3) := by decide +kernel
theorem dX6_isWithin_14 : decode cX6_isWithin 14 = .ok (.iconst 0, 1) := by decide +kernel
theorem dX6_isWithin_15 : decode cX6_isWithin 15 = .ok (.ireturn, 1) := by decide +kernel
theorem dX6_found_0 : decode cX6_found 0 = .ok (.aload_n 0, 1) := by decide +kernel
theorem dX6_found_1 : decode cX6_found 1 = .ok (.iload_n 1, 1) := by decide +kernel
theorem dX6_found_2 : decode cX6_found 2 = .ok (.putfield 283, 3) := by decide +kernel
theorem dX6_found_5 : decode cX6_found 5 = .ok (.ldc_w 286, 3) := by decide +kernel
theorem dX6_found_8 : decode cX6_found 8 = .ok (.iload_n 1, 1) := by decide +kernel
theorem dX6_found_9 : decode cX6_found 9 = .ok (.isub, 1) := by decide +kernel
theorem dX6_found_10 : decode cX6_found 10 = .ok (.ireturn, 1) := by decide +kernel
theorem dX6_unfound_0 : decode cX6_unfound 0 = .ok (.aload_n 0, 1) := by decide +kernel
theorem dX6_unfound_1 : decode cX6_unfound 1 = .ok (.iconst 0, 1) := by decide +kernel
theorem dX6_unfound_2 : decode cX6_unfound 2 = .ok (.putfield 283, 3) := by decide +kernel
theorem dX6_unfound_5 : decode cX6_unfound 5 = .ok (.iload_n 1, 1) := by decide +kernel
theorem dX6_unfound_6 : decode cX6_unfound 6 = .ok (.ireturn, 1) := by decide +kernel
theorem dX6_rowsThere_0 : decode cX6_rowsThere 0 = .ok (.iconst 0, 1) := by decide +kernel
theorem dX6_rowsThere_1 : decode cX6_rowsThere 1 = .ok (.istore_n 1, 1) := by decide +kernel
theorem dX6_rowsThere_2 : decode cX6_rowsThere 2 = .ok (.iconst 0, 1) := by decide +kernel
theorem dX6_rowsThere_3 : decode cX6_rowsThere 3 = .ok (.istore_n 2, 1) := by decide +kernel
theorem dX6_rowsThere_4 : decode cX6_rowsThere 4 = .ok (.iload_n 2, 1) := by decide +kernel
theorem dX6_rowsThere_5 : decode cX6_rowsThere 5 = .ok (.bipush 8, 2) := by decide +kernel
theorem dX6_rowsThere_7 : decode cX6_rowsThere 7 = .ok (.if_icmp .ge 24, 3) := by decide +kernel
theorem dX6_rowsThere_10 : decode cX6_rowsThere 10 = .ok (.aload_n 0, 1) := by decide +kernel
theorem dX6_rowsThere_11 : decode cX6_rowsThere 11 = .ok (.getfield 11, 3) := by decide +kernel
theorem dX6_rowsThere_14 : decode cX6_rowsThere 14 = .ok (.iload_n 2, 1) := by decide +kernel
theorem dX6_rowsThere_15 : decode cX6_rowsThere 15 = .ok (.aaload, 1) := by decide +kernel
theorem dX6_rowsThere_16 : decode cX6_rowsThere 16 = .ok (.invokevirtual 74, 3) := by decide +kernel
theorem dX6_rowsThere_19 : decode cX6_rowsThere 19 = .ok (.ifCond .ne 6, 3) := by decide +kernel
theorem dX6_rowsThere_22 : decode cX6_rowsThere 22 = .ok (.iinc 1 1, 3) := by decide +kernel
theorem dX6_rowsThere_25 : decode cX6_rowsThere 25 = .ok (.iinc 2 1, 3) := by decide +kernel
theorem dX6_rowsThere_28 : decode cX6_rowsThere 28 = .ok (.goto (-24), 3) := by decide +kernel
theorem dX6_rowsThere_31 : decode cX6_rowsThere 31 = .ok (.iload_n 1, 1) := by decide +kernel
theorem dX6_rowsThere_32 : decode cX6_rowsThere 32 = .ok (.ireturn, 1) := by decide +kernel
theorem dX6_foretell_0 : decode cX6_foretell 0 = .ok (.aload_n 0, 1) := by decide +kernel
theorem dX6_foretell_1 : decode cX6_foretell 1 = .ok (.getfield 26, 3) := by decide +kernel
theorem dX6_foretell_4 : decode cX6_foretell 4 = .ok (.aload_n 0, 1) := by decide +kernel
theorem dX6_foretell_5 : decode cX6_foretell 5 = .ok (.getfield 22, 3) := by decide +kernel
theorem dX6_foretell_8 : decode cX6_foretell 8 = .ok (.invokevirtual 126, 3) := by decide +kernel
theorem dX6_foretell_11 : decode cX6_foretell 11 = .ok (.iconst 0, 1) := by decide +kernel
theorem dX6_foretell_12 : decode cX6_foretell 12 = .ok (.istore_n 2, 1) := by decide +kernel
theorem dX6_foretell_13 : decode cX6_foretell 13 = .ok (.iload_n 2, 1) := by decide +kernel
theorem dX6_foretell_14 : decode cX6_foretell 14 = .ok (.iload_n 1, 1) := by decide +kernel
theorem dX6_foretell_15 : decode cX6_foretell 15 = .ok (.if_icmp .ge 18, 3) := by decide +kernel
theorem dX6_foretell_18 : decode cX6_foretell 18 = .ok (.aload_n 0, 1) := by decide +kernel
theorem dX6_foretell_19 : decode cX6_foretell 19 = .ok (.getfield 26, 3) := by decide +kernel
theorem dX6_foretell_22 : decode cX6_foretell 22 = .ok (.bipush 15, 2) := by decide +kernel
theorem dX6_foretell_24 : decode cX6_foretell 24 = .ok (.invokevirtual 145, 3) := by decide +kernel
theorem dX6_foretell_27 : decode cX6_foretell 27 = .ok (.iinc 2 1, 3) := by decide +kernel
theorem dX6_foretell_30 : decode cX6_foretell 30 = .ok (.goto (-17), 3) := by decide +kernel
theorem dX6_foretell_33 : decode cX6_foretell 33 = .ok (.return_, 1) := by decide +kernel
theorem dX6_firstRest_0 : decode cX6_firstRest 0 = .ok (.aload_n 0, 1) := by decide +kernel
theorem dX6_firstRest_1 : decode cX6_firstRest 1 = .ok (.getfield 26, 3) := by decide +kernel
theorem dX6_firstRest_4 : decode cX6_firstRest 4 = .ok (.aload_n 0, 1) := by decide +kernel
theorem dX6_firstRest_5 : decode cX6_firstRest 5 = .ok (.getfield 22, 3) := by decide +kernel
theorem dX6_firstRest_8 : decode cX6_firstRest 8 = .ok (.invokevirtual 126, 3) := by decide +kernel
theorem dX6_firstRest_11 : decode cX6_firstRest 11 = .ok (.iconst 0, 1) := by decide +kernel
theorem dX6_firstRest_12 : decode cX6_firstRest 12 = .ok (.istore_n 2, 1) := by decide +kernel
theorem dX6_firstRest_13 : decode cX6_firstRest 13 = .ok (.iload_n 2, 1) := by decide +kernel
theorem dX6_firstRest_14 : decode cX6_firstRest 14 = .ok (.bipush 60, 2) := by decide +kernel
theorem dX6_firstRest_16 : decode cX6_firstRest 16 = .ok (.if_icmp .gt 33, 3) := by decide +kernel
theorem dX6_firstRest_19 : decode cX6_firstRest 19 = .ok (.aload_n 0, 1) := by decide +kernel
theorem dX6_firstRest_20 : decode cX6_firstRest 20 = .ok (.getfield 26, 3) := by decide +kernel
theorem dX6_firstRest_23 : decode cX6_firstRest 23 = .ok (.invokevirtual 149, 3) := by decide +kernel
theorem dX6_firstRest_26 : decode cX6_firstRest 26 = .ok (.iload_n 1, 1) := by decide +kernel
theorem dX6_firstRest_27 : decode cX6_firstRest 27 = .ok (.iand, 1) := by decide +kernel
theorem dX6_firstRest_28 : decode cX6_firstRest 28 = .ok (.iload_n 1, 1) := by decide +kernel
theorem dX6_firstRest_29 : decode cX6_firstRest 29 = .ok (.if_icmp .ne 5, 3) := by decide +kernel
theorem dX6_firstRest_32 : decode cX6_firstRest 32 = .ok (.iload_n 2, 1) := by decide +kernel
theorem dX6_firstRest_33 : decode cX6_firstRest 33 = .ok (.ireturn, 1) := by decide +kernel
theorem dX6_firstRest_34 : decode cX6_firstRest 34 = .ok (.aload_n 0, 1) := by decide +kernel
theorem dX6_firstRest_35 : decode cX6_firstRest 35 = .ok (.getfield 26, 3) := by decide +kernel
theorem dX6_firstRest_38 : decode cX6_firstRest 38 = .ok (.bipush 15, 2) := by decide +kernel
theorem dX6_firstRest_40 : decode cX6_firstRest 40 = .ok (.invokevirtual 145, 3) := by decide +kernel
theorem dX6_firstRest_43 : decode cX6_firstRest 43 = .ok (.iinc 2 1, 3) := by decide +kernel
theorem dX6_firstRest_46 : decode cX6_firstRest 46 = .ok (.goto (-33), 3) := by decide +kernel
theorem dX6_firstRest_49 : decode cX6_firstRest 49 = .ok (.ldc 224, 2) := by decide +kernel
theorem dX6_firstRest_51 : decode cX6_firstRest 51 = .ok (.ireturn, 1) := by decide +kernel
theorem dX6_hirerFound_0 : decode cX6_hirerFound 0 = .ok (.iload_n 1, 1) := by decide +kernel
theorem dX6_hirerFound_1 : decode cX6_hirerFound 1 = .ok (.iconst 0, 1) := by decide +kernel
theorem dX6_hirerFound_2 : decode cX6_hirerFound 2 = .ok (.aload_n 0, 1) := by decide +kernel
theorem dX6_hirerFound_3 : decode cX6_hirerFound 3 = .ok (.getfield 22, 3) := by decide +kernel
theorem dX6_hirerFound_6 : decode cX6_hirerFound 6 = .ok (.getfield 232, 3) := by decide +kernel
theorem dX6_hirerFound_9 : decode cX6_hirerFound 9 = .ok (.iconst 1, 1) := by decide +kernel
theorem dX6_hirerFound_10 : decode cX6_hirerFound 10 = .ok (.isub, 1) := by decide +kernel
theorem dX6_hirerFound_11 : decode cX6_hirerFound 11 = .ok (.invokestatic 58, 3) := by decide +kernel
theorem dX6_hirerFound_14 : decode cX6_hirerFound 14 = .ok (.ifCond .eq 15, 3) := by decide +kernel
theorem dX6_hirerFound_17 : decode cX6_hirerFound 17 = .ok (.aload_n 0, 1) := by decide +kernel
theorem dX6_hirerFound_18 : decode cX6_hirerFound 18 = .ok (.getfield 46, 3) := by decide +kernel
theorem dX6_hirerFound_21 : decode cX6_hirerFound 21 = .ok (.getfield 287, 3) := by decide +kernel
theorem dX6_hirerFound_24 : decode cX6_hirerFound 24 = .ok (.iload_n 1, 1) := by decide +kernel
theorem dX6_hirerFound_25 : decode cX6_hirerFound 25 = .ok (.iaload, 1) := by decide +kernel
theorem dX6_hirerFound_26 : decode cX6_hirerFound 26 = .ok (.goto 5, 3) := by decide +kernel
theorem dX6_hirerFound_29 : decode cX6_hirerFound 29 = .ok (.ldc 224, 2) := by decide +kernel
theorem dX6_hirerFound_31 : decode cX6_hirerFound 31 = .ok (.ireturn, 1) := by decide +kernel
theorem dX6_isGuess_0 : decode cX6_isGuess 0 = .ok (.iload_n 2, 1) := by decide +kernel
theorem dX6_isGuess_1 : decode cX6_isGuess 1 = .ok (.ifCond .ne 25, 3) := by decide +kernel
theorem dX6_isGuess_4 : decode cX6_isGuess 4 = .ok (.aload_n 0, 1) := by decide +kernel
theorem dX6_isGuess_5 : decode cX6_isGuess 5 = .ok (.getfield 22, 3) := by decide +kernel
theorem dX6_isGuess_8 : decode cX6_isGuess 8 = .ok (.iload_n 1, 1) := by decide +kernel
theorem dX6_isGuess_9 : decode cX6_isGuess 9 = .ok (.invokevirtual 155, 3) := by decide +kernel
theorem dX6_isGuess_12 : decode cX6_isGuess 12 = .ok (.ifCond .ne 8, 3) := by decide +kernel
theorem dX6_isGuess_15 : decode cX6_isGuess 15 = .ok (.iload_n 1, 1) := by decide +kernel
theorem dX6_isGuess_16 : decode cX6_isGuess 16 = .ok (.iconst 5, 1) := by decide +kernel
theorem dX6_isGuess_17 : decode cX6_isGuess 17 = .ok (.if_icmp .ne 7, 3) := by decide +kernel
theorem dX6_isGuess_20 : decode cX6_isGuess 20 = .ok (.iconst 1, 1) := by decide +kernel
theorem dX6_isGuess_21 : decode cX6_isGuess 21 = .ok (.goto 4, 3) := by decide +kernel
theorem dX6_isGuess_24 : decode cX6_isGuess 24 = .ok (.iconst 0, 1) := by decide +kernel
theorem dX6_isGuess_25 : decode cX6_isGuess 25 = .ok (.ireturn, 1) := by decide +kernel
theorem dX6_isGuess_26 : decode cX6_isGuess 26 = .ok (.iload_n 2, 1) := by decide +kernel
theorem dX6_isGuess_27 : decode cX6_isGuess 27 = .ok (.iconst 2, 1) := by decide +kernel
theorem dX6_isGuess_28 : decode cX6_isGuess 28 = .ok (.if_icmp .eq 8, 3) := by decide +kernel
theorem dX6_isGuess_31 : decode cX6_isGuess 31 = .ok (.iload_n 1, 1) := by decide +kernel
theorem dX6_isGuess_32 : decode cX6_isGuess 32 = .ok (.iconst 1, 1) := by decide +kernel
theorem dX6_isGuess_33 : decode cX6_isGuess 33 = .ok (.if_icmp .lt 7, 3) := by decide +kernel
theorem dX6_isGuess_36 : decode cX6_isGuess 36 = .ok (.iconst 1, 1) := by decide +kernel
theorem dX6_isGuess_37 : decode cX6_isGuess 37 = .ok (.goto 4, 3) := by decide +kernel
theorem dX6_isGuess_40 : decode cX6_isGuess 40 = .ok (.iconst 0, 1) := by decide +kernel
theorem dX6_isGuess_41 : decode cX6_isGuess 41 = .ok (.ireturn, 1) := by decide +kernel
theorem dX6_wouldShow_0 : decode cX6_wouldShow 0 = .ok (.aload_n 0, 1) := by decide +kernel
theorem dX6_wouldShow_1 : decode cX6_wouldShow 1 = .ok (.getfield 26, 3) := by decide +kernel
theorem dX6_wouldShow_4 : decode cX6_wouldShow 4 = .ok (.aload_n 0, 1) := by decide +kernel
theorem dX6_wouldShow_5 : decode cX6_wouldShow 5 = .ok (.getfield 22, 3) := by decide +kernel
theorem dX6_wouldShow_8 : decode cX6_wouldShow 8 = .ok (.invokevirtual 126, 3) := by decide +kernel
theorem dX6_wouldShow_11 : decode cX6_wouldShow 11 = .ok (.iload_n 2, 1) := by decide +kernel
theorem dX6_wouldShow_12 : decode cX6_wouldShow 12 = .ok (.ifCond .ne 16, 3) := by decide +kernel
theorem dX6_wouldShow_15 : decode cX6_wouldShow 15 = .ok (.aload_n 0, 1) := by decide +kernel
theorem dX6_wouldShow_16 : decode cX6_wouldShow 16 = .ok (.getfield 26, 3) := by decide +kernel
theorem dX6_wouldShow_19 : decode cX6_wouldShow 19 = .ok (.getfield 158, 3) := by decide +kernel
theorem dX6_wouldShow_22 : decode cX6_wouldShow 22 = .ok (.iload_n 1, 1) := by decide +kernel
theorem dX6_wouldShow_23 : decode cX6_wouldShow 23 = .ok (.iload_n 3, 1) := by decide +kernel
theorem dX6_wouldShow_24 : decode cX6_wouldShow 24 = .ok (.iastore, 1) := by decide +kernel
theorem dX6_wouldShow_25 : decode cX6_wouldShow 25 = .ok (.goto 31, 3) := by decide +kernel
theorem dX6_wouldShow_28 : decode cX6_wouldShow 28 = .ok (.iload_n 2, 1) := by decide +kernel
theorem dX6_wouldShow_29 : decode cX6_wouldShow 29 = .ok (.iconst 1, 1) := by decide +kernel
theorem dX6_wouldShow_30 : decode cX6_wouldShow 30 = .ok (.if_icmp .ne 16, 3) := by decide +kernel
theorem dX6_wouldShow_33 : decode cX6_wouldShow 33 = .ok (.aload_n 0, 1) := by decide +kernel
theorem dX6_wouldShow_34 : decode cX6_wouldShow 34 = .ok (.getfield 26, 3) := by decide +kernel
theorem dX6_wouldShow_37 : decode cX6_wouldShow 37 = .ok (.getfield 261, 3) := by decide +kernel
theorem dX6_wouldShow_40 : decode cX6_wouldShow 40 = .ok (.iload_n 1, 1) := by decide +kernel
theorem dX6_wouldShow_41 : decode cX6_wouldShow 41 = .ok (.iload_n 3, 1) := by decide +kernel
theorem dX6_wouldShow_42 : decode cX6_wouldShow 42 = .ok (.iastore, 1) := by decide +kernel
theorem dX6_wouldShow_43 : decode cX6_wouldShow 43 = .ok (.goto 13, 3) := by decide +kernel
theorem dX6_wouldShow_46 : decode cX6_wouldShow 46 = .ok (.aload_n 0, 1) := by decide +kernel
theorem dX6_wouldShow_47 : decode cX6_wouldShow 47 = .ok (.getfield 26, 3) := by decide +kernel
theorem dX6_wouldShow_50 : decode cX6_wouldShow 50 = .ok (.getfield 167, 3) := by decide +kernel
theorem dX6_wouldShow_53 : decode cX6_wouldShow 53 = .ok (.iload_n 1, 1) := by decide +kernel
theorem dX6_wouldShow_54 : decode cX6_wouldShow 54 = .ok (.iload_n 3, 1) := by decide +kernel
theorem dX6_wouldShow_55 : decode cX6_wouldShow 55 = .ok (.iastore, 1) := by decide +kernel
theorem dX6_wouldShow_56 : decode cX6_wouldShow 56 = .ok (.iconst 0, 1) := by decide +kernel
theorem dX6_wouldShow_57 : decode cX6_wouldShow 57 = .ok (.istore 7, 2) := by decide +kernel
theorem dX6_wouldShow_59 : decode cX6_wouldShow 59 = .ok (.iload 7, 2) := by decide +kernel
theorem dX6_wouldShow_61 : decode cX6_wouldShow 61 = .ok (.iload 6, 2) := by decide +kernel
theorem dX6_wouldShow_63 : decode cX6_wouldShow 63 = .ok (.if_icmp .ge 41, 3) := by decide +kernel
theorem dX6_wouldShow_66 : decode cX6_wouldShow 66 = .ok (.aload_n 0, 1) := by decide +kernel
theorem dX6_wouldShow_67 : decode cX6_wouldShow 67 = .ok (.getfield 26, 3) := by decide +kernel
theorem dX6_wouldShow_70 : decode cX6_wouldShow 70 = .ok (.bipush 15, 2) := by decide +kernel
theorem dX6_wouldShow_72 : decode cX6_wouldShow 72 = .ok (.invokevirtual 145, 3) := by decide +kernel
theorem dX6_wouldShow_75 : decode cX6_wouldShow 75 = .ok (.aload_n 0, 1) := by decide +kernel
theorem dX6_wouldShow_76 : decode cX6_wouldShow 76 = .ok (.getfield 26, 3) := by decide +kernel
theorem dX6_wouldShow_79 : decode cX6_wouldShow 79 = .ok (.invokevirtual 149, 3) := by decide +kernel
theorem dX6_wouldShow_82 : decode cX6_wouldShow 82 = .ok (.aload 4, 2) := by decide +kernel
theorem dX6_wouldShow_84 : decode cX6_wouldShow 84 = .ok (.getfield 90, 3) := by decide +kernel
theorem dX6_wouldShow_87 : decode cX6_wouldShow 87 = .ok (.iload 5, 2) := by decide +kernel
theorem dX6_wouldShow_89 : decode cX6_wouldShow 89 = .ok (.iload 7, 2) := by decide +kernel
theorem dX6_wouldShow_91 : decode cX6_wouldShow 91 = .ok (.iadd, 1) := by decide +kernel
theorem dX6_wouldShow_92 : decode cX6_wouldShow 92 = .ok (.iaload, 1) := by decide +kernel
theorem dX6_wouldShow_93 : decode cX6_wouldShow 93 = .ok (.if_icmp .eq 5, 3) := by decide +kernel
theorem dX6_wouldShow_96 : decode cX6_wouldShow 96 = .ok (.iconst 0, 1) := by decide +kernel
theorem dX6_wouldShow_97 : decode cX6_wouldShow 97 = .ok (.ireturn, 1) := by decide +kernel
theorem dX6_wouldShow_98 : decode cX6_wouldShow 98 = .ok (.iinc 7 1, 3) := by decide +kernel
theorem dX6_wouldShow_101 : decode cX6_wouldShow 101 = .ok (.goto (-42), 3) := by decide +kernel
theorem dX6_wouldShow_104 : decode cX6_wouldShow 104 = .ok (.iconst 1, 1) := by decide +kernel
theorem dX6_wouldShow_105 : decode cX6_wouldShow 105 = .ok (.ireturn, 1) := by decide +kernel
theorem dX6_waysToBe_0 : decode cX6_waysToBe 0 = .ok (.iconst 1, 1) := by decide +kernel
theorem dX6_waysToBe_1 : decode cX6_waysToBe 1 = .ok (.istore_n 3, 1) := by decide +kernel
theorem dX6_waysToBe_2 : decode cX6_waysToBe 2 = .ok (.iconst 0, 1) := by decide +kernel
theorem dX6_waysToBe_3 : decode cX6_waysToBe 3 = .ok (.istore 4, 2) := by decide +kernel
theorem dX6_waysToBe_5 : decode cX6_waysToBe 5 = .ok (.iload 4, 2) := by decide +kernel
theorem dX6_waysToBe_7 : decode cX6_waysToBe 7 = .ok (.aload_n 0, 1) := by decide +kernel
theorem dX6_waysToBe_8 : decode cX6_waysToBe 8 = .ok (.getfield 22, 3) := by decide +kernel
theorem dX6_waysToBe_11 : decode cX6_waysToBe 11 = .ok (.getfield 232, 3) := by decide +kernel
theorem dX6_waysToBe_14 : decode cX6_waysToBe 14 = .ok (.if_icmp .ge 30, 3) := by decide +kernel
theorem dX6_waysToBe_17 : decode cX6_waysToBe 17 = .ok (.iload_n 3, 1) := by decide +kernel
theorem dX6_waysToBe_18 : decode cX6_waysToBe 18 = .ok (.iload_n 1, 1) := by decide +kernel
theorem dX6_waysToBe_19 : decode cX6_waysToBe 19 = .ok (.iload 4, 2) := by decide +kernel
theorem dX6_waysToBe_21 : decode cX6_waysToBe 21 = .ok (.ishr, 1) := by decide +kernel
theorem dX6_waysToBe_22 : decode cX6_waysToBe 22 = .ok (.iconst 1, 1) := by decide +kernel
theorem dX6_waysToBe_23 : decode cX6_waysToBe 23 = .ok (.iand, 1) := by decide +kernel
theorem dX6_waysToBe_24 : decode cX6_waysToBe 24 = .ok (.iconst 1, 1) := by decide +kernel
theorem dX6_waysToBe_25 : decode cX6_waysToBe 25 = .ok (.if_icmp .ne 10, 3) := by decide +kernel
theorem dX6_waysToBe_28 : decode cX6_waysToBe 28 = .ok (.bipush 10, 2) := by decide +kernel
theorem dX6_waysToBe_30 : decode cX6_waysToBe 30 = .ok (.iload_n 2, 1) := by decide +kernel
theorem dX6_waysToBe_31 : decode cX6_waysToBe 31 = .ok (.isub, 1) := by decide +kernel
theorem dX6_waysToBe_32 : decode cX6_waysToBe 32 = .ok (.goto 4, 3) := by decide +kernel
theorem dX6_waysToBe_35 : decode cX6_waysToBe 35 = .ok (.iload_n 2, 1) := by decide +kernel
theorem dX6_waysToBe_36 : decode cX6_waysToBe 36 = .ok (.imul, 1) := by decide +kernel
theorem dX6_waysToBe_37 : decode cX6_waysToBe 37 = .ok (.istore_n 3, 1) := by decide +kernel
theorem dX6_waysToBe_38 : decode cX6_waysToBe 38 = .ok (.iinc 4 1, 3) := by decide +kernel
theorem dX6_waysToBe_41 : decode cX6_waysToBe 41 = .ok (.goto (-36), 3) := by decide +kernel
theorem dX6_waysToBe_44 : decode cX6_waysToBe 44 = .ok (.iload_n 3, 1) := by decide +kernel
theorem dX6_waysToBe_45 : decode cX6_waysToBe 45 = .ok (.ireturn, 1) := by decide +kernel
theorem dX6_commonDivisor_0 : decode cX6_commonDivisor 0 = .ok (.iload_n 0, 1) := by decide +kernel
theorem dX6_commonDivisor_1 : decode cX6_commonDivisor 1 = .ok (.istore_n 2, 1) := by decide +kernel
theorem dX6_commonDivisor_2 : decode cX6_commonDivisor 2 = .ok (.iload_n 1, 1) := by decide +kernel
theorem dX6_commonDivisor_3 : decode cX6_commonDivisor 3 = .ok (.istore_n 3, 1) := by decide +kernel
theorem dX6_commonDivisor_4 : decode cX6_commonDivisor 4 = .ok (.iconst 0, 1) := by decide +kernel
theorem dX6_commonDivisor_5 : decode cX6_commonDivisor 5 = .ok (.istore 4, 2) := by decide +kernel
theorem dX6_commonDivisor_7 : decode cX6_commonDivisor 7 = .ok (.iload 4, 2) := by decide +kernel
theorem dX6_commonDivisor_9 : decode cX6_commonDivisor 9 = .ok (.bipush 64, 2) := by decide +kernel
theorem dX6_commonDivisor_11 : decode cX6_commonDivisor 11 = .ok (.if_icmp .ge 23, 3) := by decide +kernel
theorem dX6_commonDivisor_14 : decode cX6_commonDivisor 14 = .ok (.iload_n 3, 1) := by decide +kernel
theorem dX6_commonDivisor_15 : decode cX6_commonDivisor 15 = .ok (.ifCond .eq 19, 3) := by decide +kernel
theorem dX6_commonDivisor_18 : decode cX6_commonDivisor 18 = .ok (.iload_n 2, 1) := by decide +kernel
theorem dX6_commonDivisor_19 : decode cX6_commonDivisor 19 = .ok (.iload_n 3, 1) := by decide +kernel
theorem dX6_commonDivisor_20 : decode cX6_commonDivisor 20 = .ok (.irem, 1) := by decide +kernel
theorem dX6_commonDivisor_21 : decode cX6_commonDivisor 21 = .ok (.istore 5, 2) := by decide +kernel
theorem dX6_commonDivisor_23 : decode cX6_commonDivisor 23 = .ok (.iload_n 3, 1) := by decide +kernel
theorem dX6_commonDivisor_24 : decode cX6_commonDivisor 24 = .ok (.istore_n 2, 1) := by decide +kernel
theorem dX6_commonDivisor_25 : decode cX6_commonDivisor 25 = .ok (.iload 5, 2) := by decide +kernel
theorem dX6_commonDivisor_27 : decode cX6_commonDivisor 27 = .ok (.istore_n 3, 1) := by decide +kernel
theorem dX6_commonDivisor_28 : decode cX6_commonDivisor 28 = .ok (.iinc 4 1, 3) := by decide +kernel
theorem dX6_commonDivisor_31 : decode cX6_commonDivisor 31 = .ok (.goto (-24), 3) := by decide +kernel
theorem dX6_commonDivisor_34 : decode cX6_commonDivisor 34 = .ok (.iload_n 2, 1) := by decide +kernel
theorem dX6_commonDivisor_35 : decode cX6_commonDivisor 35 = .ok (.ireturn, 1) := by decide +kernel
theorem dX7_init_0 : decode cX7_init 0 = .ok (.aload_n 0, 1) := by decide +kernel
theorem dX7_init_1 : decode cX7_init 1 = .ok (.invokespecial 1, 3) := by decide +kernel
theorem dX7_init_4 : decode cX7_init 4 = .ok (.aload_n 0, 1) := by decide +kernel
theorem dX7_init_5 : decode cX7_init 5 = .ok (.sipush 144, 3) := by decide +kernel
theorem dX7_init_8 : decode cX7_init 8 = .ok (.newarray .int, 2) := by decide +kernel
theorem dX7_init_10 : decode cX7_init 10 = .ok (.putfield 7, 3) := by decide +kernel
theorem dX7_init_13 : decode cX7_init 13 = .ok (.aload_n 0, 1) := by decide +kernel
theorem dX7_init_14 : decode cX7_init 14 = .ok (.iconst 2, 1) := by decide +kernel
theorem dX7_init_15 : decode cX7_init 15 = .ok (.newarray .boolean, 2) := by decide +kernel
theorem dX7_init_17 : decode cX7_init 17 = .ok (.putfield 13, 3) := by decide +kernel
theorem dX7_init_20 : decode cX7_init 20 = .ok (.aload_n 0, 1) := by decide +kernel
theorem dX7_init_21 : decode cX7_init 21 = .ok (.sipush 432, 3) := by decide +kernel
theorem dX7_init_24 : decode cX7_init 24 = .ok (.newarray .int, 2) := by decide +kernel
theorem dX7_init_26 : decode cX7_init 26 = .ok (.putfield 17, 3) := by decide +kernel
theorem dX7_init_29 : decode cX7_init 29 = .ok (.aload_n 0, 1) := by decide +kernel
theorem dX7_init_30 : decode cX7_init 30 = .ok (.sipush 320, 3) := by decide +kernel
theorem dX7_init_33 : decode cX7_init 33 = .ok (.newarray .int, 2) := by decide +kernel
theorem dX7_init_35 : decode cX7_init 35 = .ok (.putfield 20, 3) := by decide +kernel
theorem dX7_init_38 : decode cX7_init 38 = .ok (.aload_n 0, 1) := by decide +kernel
theorem dX7_init_39 : decode cX7_init 39 = .ok (.bipush 8, 2) := by decide +kernel
theorem dX7_init_41 : decode cX7_init 41 = .ok (.newarray .int, 2) := by decide +kernel
theorem dX7_init_43 : decode cX7_init 43 = .ok (.putfield 23, 3) := by decide +kernel
theorem dX7_init_46 : decode cX7_init 46 = .ok (.aload_n 0, 1) := by decide +kernel
theorem dX7_init_47 : decode cX7_init 47 = .ok (.bipush 8, 2) := by decide +kernel
theorem dX7_init_49 : decode cX7_init 49 = .ok (.newarray .int, 2) := by decide +kernel
theorem dX7_init_51 : decode cX7_init 51 = .ok (.putfield 26, 3) := by decide +kernel
theorem dX7_init_54 : decode cX7_init 54 = .ok (.aload_n 0, 1) := by decide +kernel
theorem dX7_init_55 : decode cX7_init 55 = .ok (.bipush 100, 2) := by decide +kernel
theorem dX7_init_57 : decode cX7_init 57 = .ok (.newarray .int, 2) := by decide +kernel
theorem dX7_init_59 : decode cX7_init 59 = .ok (.putfield 29, 3) := by decide +kernel
theorem dX7_init_62 : decode cX7_init 62 = .ok (.aload_n 0, 1) := by decide +kernel
theorem dX7_init_63 : decode cX7_init 63 = .ok (.bipush 16, 2) := by decide +kernel
theorem dX7_init_65 : decode cX7_init 65 = .ok (.newarray .int, 2) := by decide +kernel
theorem dX7_init_67 : decode cX7_init 67 = .ok (.putfield 32, 3) := by decide +kernel
theorem dX7_init_70 : decode cX7_init 70 = .ok (.aload_n 0, 1) := by decide +kernel
theorem dX7_init_71 : decode cX7_init 71 = .ok (.bipush 40, 2) := by decide +kernel
theorem dX7_init_73 : decode cX7_init 73 = .ok (.newarray .int, 2) := by decide +kernel
theorem dX7_init_75 : decode cX7_init 75 = .ok (.putfield 35, 3) := by decide +kernel
theorem dX7_init_78 : decode cX7_init 78 = .ok (.iconst 0, 1) := by decide +kernel
theorem dX7_init_79 : decode cX7_init 79 = .ok (.istore_n 1, 1) := by decide +kernel
theorem dX7_init_80 : decode cX7_init 80 = .ok (.iload_n 1, 1) := by decide +kernel
theorem dX7_init_81 : decode cX7_init 81 = .ok (.bipush 8, 2) := by decide +kernel
theorem dX7_init_83 : decode cX7_init 83 = .ok (.if_icmp .ge 16, 3) := by decide +kernel
theorem dX7_init_86 : decode cX7_init 86 = .ok (.aload_n 0, 1) := by decide +kernel
theorem dX7_init_87 : decode cX7_init 87 = .ok (.getfield 23, 3) := by decide +kernel
theorem dX7_init_90 : decode cX7_init 90 = .ok (.iload_n 1, 1) := by decide +kernel
theorem dX7_init_91 : decode cX7_init 91 = .ok (.iconst (-1), 1) := by decide +kernel
theorem dX7_init_92 : decode cX7_init 92 = .ok (.iastore, 1) := by decide +kernel
theorem dX7_init_93 : decode cX7_init 93 = .ok (.iinc 1 1, 3) := by decide +kernel
theorem dX7_init_96 : decode cX7_init 96 = .ok (.goto (-16), 3) := by decide +kernel
theorem dX7_init_99 : decode cX7_init 99 = .ok (.return_, 1) := by decide +kernel
theorem dX7_in_0 : decode cX7_in 0 = .ok (.lload_n 0, 1) := by decide +kernel
theorem dX7_in_1 : decode cX7_in 1 = .ok (.lload_n 2, 1) := by decide +kernel
theorem dX7_in_2 : decode cX7_in 2 = .ok (.lcmp, 1) := by decide +kernel
theorem dX7_in_3 : decode cX7_in 3 = .ok (.ifCond .lt 14, 3) := by decide +kernel
theorem dX7_in_6 : decode cX7_in 6 = .ok (.lload_n 0, 1) := by decide +kernel
theorem dX7_in_7 : decode cX7_in 7 = .ok (.lload 4, 2) := by decide +kernel
theorem dX7_in_9 : decode cX7_in 9 = .ok (.lcmp, 1) := by decide +kernel
theorem dX7_in_10 : decode cX7_in 10 = .ok (.ifCond .gt 7, 3) := by decide +kernel
theorem dX7_in_13 : decode cX7_in 13 = .ok (.iconst 1, 1) := by decide +kernel
theorem dX7_in_14 : decode cX7_in 14 = .ok (.goto 4, 3) := by decide +kernel
theorem dX7_in_17 : decode cX7_in 17 = .ok (.iconst 0, 1) := by decide +kernel
theorem dX7_in_18 : decode cX7_in 18 = .ok (.ireturn, 1) := by decide +kernel
theorem dX7_has_0 : decode cX7_has 0 = .ok (.iload_n 0, 1) := by decide +kernel
theorem dX7_has_1 : decode cX7_has 1 = .ok (.iload_n 1, 1) := by decide +kernel
theorem dX7_has_2 : decode cX7_has 2 = .ok (.ishr, 1) := by decide +kernel
theorem dX7_has_3 : decode cX7_has 3 = .ok (.iconst 1, 1) := by decide +kernel
theorem dX7_has_4 : decode cX7_has 4 = .ok (.iand, 1) := by decide +kernel
theorem dX7_has_5 : decode cX7_has 5 = .ok (.iconst 1, 1) := by decide +kernel
theorem dX7_has_6 : decode cX7_has 6 = .ok (.if_icmp .ne 7, 3) := by decide +kernel
theorem dX7_has_9 : decode cX7_has 9 = .ok (.iconst 1, 1) := by decide +kernel
theorem dX7_has_10 : decode cX7_has 10 = .ok (.goto 4, 3) := by decide +kernel
theorem dX7_has_13 : decode cX7_has 13 = .ok (.iconst 0, 1) := by decide +kernel
theorem dX7_has_14 : decode cX7_has 14 = .ok (.ireturn, 1) := by decide +kernel
theorem dX7_ones_0 : decode cX7_ones 0 = .ok (.iconst 0, 1) := by decide +kernel
theorem dX7_ones_1 : decode cX7_ones 1 = .ok (.istore_n 1, 1) := by decide +kernel
theorem dX7_ones_2 : decode cX7_ones 2 = .ok (.iconst 0, 1) := by decide +kernel
theorem dX7_ones_3 : decode cX7_ones 3 = .ok (.istore_n 2, 1) := by decide +kernel
theorem dX7_ones_4 : decode cX7_ones 4 = .ok (.iload_n 2, 1) := by decide +kernel
theorem dX7_ones_5 : decode cX7_ones 5 = .ok (.iconst 5, 1) := by decide +kernel
theorem dX7_ones_6 : decode cX7_ones 6 = .ok (.if_icmp .ge 17, 3) := by decide +kernel
theorem dX7_ones_9 : decode cX7_ones 9 = .ok (.iload_n 1, 1) := by decide +kernel
theorem dX7_ones_10 : decode cX7_ones 10 = .ok (.iload_n 0, 1) := by decide +kernel
theorem dX7_ones_11 : decode cX7_ones 11 = .ok (.iload_n 2, 1) := by decide +kernel
theorem dX7_ones_12 : decode cX7_ones 12 = .ok (.ishr, 1) := by decide +kernel
theorem dX7_ones_13 : decode cX7_ones 13 = .ok (.iconst 1, 1) := by decide +kernel
theorem dX7_ones_14 : decode cX7_ones 14 = .ok (.iand, 1) := by decide +kernel
theorem dX7_ones_15 : decode cX7_ones 15 = .ok (.iadd, 1) := by decide +kernel
theorem dX7_ones_16 : decode cX7_ones 16 = .ok (.istore_n 1, 1) := by decide +kernel
theorem dX7_ones_17 : decode cX7_ones 17 = .ok (.iinc 2 1, 3) := by decide +kernel
theorem dX7_ones_20 : decode cX7_ones 20 = .ok (.goto (-16), 3) := by decide +kernel
theorem dX7_ones_23 : decode cX7_ones 23 = .ok (.iload_n 1, 1) := by decide +kernel
theorem dX7_ones_24 : decode cX7_ones 24 = .ok (.ireturn, 1) := by decide +kernel
theorem dX7_found_0 : decode cX7_found 0 = .ok (.aload_n 0, 1) := by decide +kernel
theorem dX7_found_1 : decode cX7_found 1 = .ok (.iload_n 1, 1) := by decide +kernel
theorem dX7_found_2 : decode cX7_found 2 = .ok (.putfield 38, 3) := by decide +kernel
theorem dX7_found_5 : decode cX7_found 5 = .ok (.ldc 42, 2) := by decide +kernel
theorem dX7_found_7 : decode cX7_found 7 = .ok (.iload_n 1, 1) := by decide +kernel
theorem dX7_found_8 : decode cX7_found 8 = .ok (.isub, 1) := by decide +kernel
theorem dX7_found_9 : decode cX7_found 9 = .ok (.ireturn, 1) := by decide +kernel
theorem dX7_good_0 : decode cX7_good 0 = .ok (.aload_n 0, 1) := by decide +kernel
theorem dX7_good_1 : decode cX7_good 1 = .ok (.iconst 0, 1) := by decide +kernel
theorem dX7_good_2 : decode cX7_good 2 = .ok (.putfield 38, 3) := by decide +kernel
theorem dX7_good_5 : decode cX7_good 5 = .ok (.iload_n 1, 1) := by decide +kernel
theorem dX7_good_6 : decode cX7_good 6 = .ok (.ireturn, 1) := by decide +kernel
theorem dX7_isRow_0 : decode cX7_isRow 0 = .ok (.iload_n 0, 1) := by decide +kernel
theorem dX7_isRow_1 : decode cX7_isRow 1 = .ok (.i2l, 1) := by decide +kernel
theorem dX7_isRow_2 : decode cX7_isRow 2 = .ok (.lconst 0, 1) := by decide +kernel
theorem dX7_isRow_3 : decode cX7_isRow 3 = .ok (.ldc2_w 43, 3) := by decide +kernel
theorem dX7_isRow_6 : decode cX7_isRow 6 = .ok (.invokestatic 45, 3) := by decide +kernel
theorem dX7_isRow_9 : decode cX7_isRow 9 = .ok (.ireturn, 1) := by decide +kernel
theorem dX7_row_0 : decode cX7_row 0 = .ok (.iload_n 1, 1) := by decide +kernel
theorem dX7_row_1 : decode cX7_row 1 = .ok (.invokestatic 49, 3) := by decide +kernel
theorem dX7_row_4 : decode cX7_row 4 = .ok (.ifCond .eq 21, 3) := by decide +kernel
theorem dX7_row_7 : decode cX7_row 7 = .ok (.iload_n 2, 1) := by decide +kernel
theorem dX7_row_8 : decode cX7_row 8 = .ok (.i2l, 1) := by decide +kernel
theorem dX7_row_9 : decode cX7_row 9 = .ok (.lconst 0, 1) := by decide +kernel
theorem dX7_row_10 : decode cX7_row 10 = .ok (.ldc2_w 53, 3) := by decide +kernel
theorem dX7_row_13 : decode cX7_row 13 = .ok (.invokestatic 45, 3) := by decide +kernel
theorem dX7_row_16 : decode cX7_row 16 = .ok (.ifCond .eq 9, 3) := by decide +kernel
theorem dX7_row_19 : decode cX7_row 19 = .ok (.iload_n 3, 1) := by decide +kernel
theorem dX7_row_20 : decode cX7_row 20 = .ok (.bipush 40, 2) := by decide +kernel
theorem dX7_row_22 : decode cX7_row 22 = .ok (.if_icmp .le 6, 3) := by decide +kernel
theorem dX7_row_25 : decode cX7_row 25 = .ok (.ldc 55, 2) := by decide +kernel
theorem dX7_row_27 : decode cX7_row 27 = .ok (.ireturn, 1) := by decide +kernel
theorem dX7_row_28 : decode cX7_row 28 = .ok (.iload_n 3, 1) := by decide +kernel
theorem dX7_row_29 : decode cX7_row 29 = .ok (.ifCond .ge 9, 3) := by decide +kernel
theorem dX7_row_32 : decode cX7_row 32 = .ok (.aload_n 0, 1) := by decide +kernel
theorem dX7_row_33 : decode cX7_row 33 = .ok (.iconst 4, 1) := by decide +kernel
theorem dX7_row_34 : decode cX7_row 34 = .ok (.invokevirtual 56, 3) := by decide +kernel
theorem dX7_row_37 : decode cX7_row 37 = .ok (.ireturn, 1) := by decide +kernel
theorem dX7_row_38 : decode cX7_row 38 = .ok (.aload_n 0, 1) := by decide +kernel
theorem dX7_row_39 : decode cX7_row 39 = .ok (.getfield 23, 3) := by decide +kernel
theorem dX7_row_42 : decode cX7_row 42 = .ok (.iload_n 1, 1) := by decide +kernel
theorem dX7_row_43 : decode cX7_row 43 = .ok (.iload_n 3, 1) := by decide +kernel
theorem dX7_row_44 : decode cX7_row 44 = .ok (.iastore, 1) := by decide +kernel
theorem dX7_row_45 : decode cX7_row 45 = .ok (.aload_n 0, 1) := by decide +kernel
theorem dX7_row_46 : decode cX7_row 46 = .ok (.getfield 26, 3) := by decide +kernel
theorem dX7_row_49 : decode cX7_row 49 = .ok (.iload_n 1, 1) := by decide +kernel
theorem dX7_row_50 : decode cX7_row 50 = .ok (.iload_n 2, 1) := by decide +kernel
theorem dX7_row_51 : decode cX7_row 51 = .ok (.iastore, 1) := by decide +kernel
theorem dX7_row_52 : decode cX7_row 52 = .ok (.iconst 0, 1) := by decide +kernel
theorem dX7_row_53 : decode cX7_row 53 = .ok (.istore 4, 2) := by decide +kernel
theorem dX7_row_55 : decode cX7_row 55 = .ok (.iload 4, 2) := by decide +kernel
theorem dX7_row_57 : decode cX7_row 57 = .ok (.bipush 40, 2) := by decide +kernel
theorem dX7_row_59 : decode cX7_row 59 = .ok (.if_icmp .ge 22, 3) := by decide +kernel
theorem dX7_row_62 : decode cX7_row 62 = .ok (.aload_n 0, 1) := by decide +kernel
theorem dX7_row_63 : decode cX7_row 63 = .ok (.getfield 20, 3) := by decide +kernel
theorem dX7_row_66 : decode cX7_row 66 = .ok (.bipush 40, 2) := by decide +kernel
theorem dX7_row_68 : decode cX7_row 68 = .ok (.iload_n 1, 1) := by decide +kernel
theorem dX7_row_69 : decode cX7_row 69 = .ok (.imul, 1) := by decide +kernel
theorem dX7_row_70 : decode cX7_row 70 = .ok (.iload 4, 2) := by decide +kernel
theorem dX7_row_72 : decode cX7_row 72 = .ok (.iadd, 1) := by decide +kernel
theorem dX7_row_73 : decode cX7_row 73 = .ok (.iconst 0, 1) := by decide +kernel
theorem dX7_row_74 : decode cX7_row 74 = .ok (.iastore, 1) := by decide +kernel
theorem dX7_row_75 : decode cX7_row 75 = .ok (.iinc 4 1, 3) := by decide +kernel
theorem dX7_row_78 : decode cX7_row 78 = .ok (.goto (-23), 3) := by decide +kernel
theorem dX7_row_81 : decode cX7_row 81 = .ok (.aload_n 0, 1) := by decide +kernel
theorem dX7_row_82 : decode cX7_row 82 = .ok (.iload_n 3, 1) := by decide +kernel
theorem dX7_row_83 : decode cX7_row 83 = .ok (.invokevirtual 60, 3) := by decide +kernel
theorem dX7_row_86 : decode cX7_row 86 = .ok (.ireturn, 1) := by decide +kernel
theorem dX7_set_0 : decode cX7_set 0 = .ok (.iload_n 1, 1) := by decide +kernel
theorem dX7_set_1 : decode cX7_set 1 = .ok (.invokestatic 49, 3) := by decide +kernel
theorem dX7_set_4 : decode cX7_set 4 = .ok (.ifCond .ne 6, 3) := by decide +kernel
theorem dX7_set_7 : decode cX7_set 7 = .ok (.ldc 55, 2) := by decide +kernel
theorem dX7_set_9 : decode cX7_set 9 = .ok (.ireturn, 1) := by decide +kernel
theorem dX7_set_10 : decode cX7_set 10 = .ok (.aload_n 0, 1) := by decide +kernel
theorem dX7_set_11 : decode cX7_set 11 = .ok (.getfield 23, 3) := by decide +kernel
theorem dX7_set_14 : decode cX7_set 14 = .ok (.iload_n 1, 1) := by decide +kernel
theorem dX7_set_15 : decode cX7_set 15 = .ok (.iaload, 1) := by decide +kernel
theorem dX7_set_16 : decode cX7_set 16 = .ok (.ifCond .ge 9, 3) := by decide +kernel
theorem dX7_set_19 : decode cX7_set 19 = .ok (.aload_n 0, 1) := by decide +kernel
theorem dX7_set_20 : decode cX7_set 20 = .ok (.iconst 1, 1) := by decide +kernel
theorem dX7_set_21 : decode cX7_set 21 = .ok (.invokevirtual 56, 3) := by decide +kernel
theorem dX7_set_24 : decode cX7_set 24 = .ok (.ireturn, 1) := by decide +kernel
theorem dX7_set_25 : decode cX7_set 25 = .ok (.iload_n 2, 1) := by decide +kernel
theorem dX7_set_26 : decode cX7_set 26 = .ok (.i2l, 1) := by decide +kernel
theorem dX7_set_27 : decode cX7_set 27 = .ok (.lconst 0, 1) := by decide +kernel
theorem dX7_set_28 : decode cX7_set 28 = .ok (.aload_n 0, 1) := by decide +kernel
theorem dX7_set_29 : decode cX7_set 29 = .ok (.getfield 23, 3) := by decide +kernel
theorem dX7_set_32 : decode cX7_set 32 = .ok (.iload_n 1, 1) := by decide +kernel
theorem dX7_set_33 : decode cX7_set 33 = .ok (.iaload, 1) := by decide +kernel
theorem dX7_set_34 : decode cX7_set 34 = .ok (.iconst 1, 1) := by decide +kernel
theorem dX7_set_35 : decode cX7_set 35 = .ok (.isub, 1) := by decide +kernel
theorem dX7_set_36 : decode cX7_set 36 = .ok (.i2l, 1) := by decide +kernel
theorem dX7_set_37 : decode cX7_set 37 = .ok (.invokestatic 45, 3) := by decide +kernel
theorem dX7_set_40 : decode cX7_set 40 = .ok (.ifCond .ne 9, 3) := by decide +kernel
theorem dX7_set_43 : decode cX7_set 43 = .ok (.aload_n 0, 1) := by decide +kernel
theorem dX7_set_44 : decode cX7_set 44 = .ok (.iconst 2, 1) := by decide +kernel
theorem dX7_set_45 : decode cX7_set 45 = .ok (.invokevirtual 56, 3) := by decide +kernel
theorem dX7_set_48 : decode cX7_set 48 = .ok (.ireturn, 1) := by decide +kernel
theorem dX7_set_49 : decode cX7_set 49 = .ok (.aload_n 0, 1) := by decide +kernel
theorem dX7_set_50 : decode cX7_set 50 = .ok (.getfield 20, 3) := by decide +kernel
theorem dX7_set_53 : decode cX7_set 53 = .ok (.bipush 40, 2) := by decide +kernel
theorem dX7_set_55 : decode cX7_set 55 = .ok (.iload_n 1, 1) := by decide +kernel
theorem dX7_set_56 : decode cX7_set 56 = .ok (.imul, 1) := by decide +kernel
theorem dX7_set_57 : decode cX7_set 57 = .ok (.iload_n 2, 1) := by decide +kernel
theorem dX7_set_58 : decode cX7_set 58 = .ok (.iadd, 1) := by decide +kernel
theorem dX7_set_59 : decode cX7_set 59 = .ok (.aload_n 0, 1) := by decide +kernel
theorem dX7_set_60 : decode cX7_set 60 = .ok (.getfield 26, 3) := by decide +kernel
theorem dX7_set_63 : decode cX7_set 63 = .ok (.iload_n 1, 1) := by decide +kernel
theorem dX7_set_64 : decode cX7_set 64 = .ok (.iaload, 1) := by decide +kernel
theorem dX7_set_65 : decode cX7_set 65 = .ok (.ifCond .ne 8, 3) := by decide +kernel
theorem dX7_set_68 : decode cX7_set 68 = .ok (.iload_n 3, 1) := by decide +kernel
theorem dX7_set_69 : decode cX7_set 69 = .ok (.i2b, 1) := by decide +kernel
theorem dX7_set_70 : decode cX7_set 70 = .ok (.goto 19, 3) := by decide +kernel
theorem dX7_set_73 : decode cX7_set 73 = .ok (.aload_n 0, 1) := by decide +kernel
theorem dX7_set_74 : decode cX7_set 74 = .ok (.getfield 26, 3) := by decide +kernel
theorem dX7_set_77 : decode cX7_set 77 = .ok (.iload_n 1, 1) := by decide +kernel
theorem dX7_set_78 : decode cX7_set 78 = .ok (.iaload, 1) := by decide +kernel
theorem dX7_set_79 : decode cX7_set 79 = .ok (.iconst 1, 1) := by decide +kernel
theorem dX7_set_80 : decode cX7_set 80 = .ok (.if_icmp .ne 8, 3) := by decide +kernel
theorem dX7_set_83 : decode cX7_set 83 = .ok (.iload_n 3, 1) := by decide +kernel
theorem dX7_set_84 : decode cX7_set 84 = .ok (.i2s, 1) := by decide +kernel
theorem dX7_set_85 : decode cX7_set 85 = .ok (.goto 4, 3) := by decide +kernel
theorem dX7_set_88 : decode cX7_set 88 = .ok (.iload_n 3, 1) := by decide +kernel
theorem dX7_set_89 : decode cX7_set 89 = .ok (.iastore, 1) := by decide +kernel
theorem dX7_set_90 : decode cX7_set 90 = .ok (.aload_n 0, 1) := by decide +kernel
theorem dX7_set_91 : decode cX7_set 91 = .ok (.aload_n 0, 1) := by decide +kernel
theorem dX7_set_92 : decode cX7_set 92 = .ok (.getfield 20, 3) := by decide +kernel
theorem dX7_set_95 : decode cX7_set 95 = .ok (.bipush 40, 2) := by decide +kernel
theorem dX7_set_97 : decode cX7_set 97 = .ok (.iload_n 1, 1) := by decide +kernel
theorem dX7_set_98 : decode cX7_set 98 = .ok (.imul, 1) := by decide +kernel
theorem dX7_set_99 : decode cX7_set 99 = .ok (.iload_n 2, 1) := by decide +kernel
theorem dX7_set_100 : decode cX7_set 100 = .ok (.iadd, 1) := by decide +kernel
theorem dX7_set_101 : decode cX7_set 101 = .ok (.iaload, 1) := by decide +kernel
theorem dX7_set_102 : decode cX7_set 102 = .ok (.invokevirtual 60, 3) := by decide +kernel
theorem dX7_set_105 : decode cX7_set 105 = .ok (.ireturn, 1) := by decide +kernel
theorem dX7_isWithin_0 : decode cX7_isWithin 0 = .ok (.iload_n 0, 1) := by decide +kernel
theorem dX7_isWithin_1 : decode cX7_isWithin 1 = .ok (.ifCond .lt 18, 3) := by decide +kernel
theorem dX7_isWithin_4 : decode cX7_isWithin 4 = .ok (.iload_n 0, 1) := by decide +kernel
theorem dX7_isWithin_5 : decode cX7_isWithin 5 = .ok (.i2l, 1) := by decide +kernel
theorem dX7_isWithin_6 : decode cX7_isWithin 6 = .ok (.iload_n 1, 1) := by decide +kernel
theorem dX7_isWithin_7 : decode cX7_isWithin 7 = .ok (.i2l, 1) := by decide +kernel
theorem dX7_isWithin_8 : decode cX7_isWithin 8 = .ok (.ladd, 1) := by decide +kernel
theorem dX7_isWithin_9 : decode cX7_isWithin 9 = .ok (.iload_n 2, 1) := by decide +kernel
theorem dX7_isWithin_10 : decode cX7_isWithin 10 = .ok (.i2l, 1) := by decide +kernel
theorem dX7_isWithin_11 : decode cX7_isWithin 11 = .ok (.lcmp, 1) := by decide +kernel
theorem dX7_isWithin_12 : decode cX7_isWithin 12 = .ok (.ifCond .gt 7, 3) := by decide +kernel
theorem dX7_isWithin_15 : decode cX7_isWithin 15 = .ok (.iconst 1, 1) := by decide +kernel
theorem dX7_isWithin_16 : decode cX7_isWithin 16 = .ok (.goto 4, 3) := by decide +kernel
theorem dX7_isWithin_19 : decode cX7_isWithin 19 = .ok (.iconst 0, 1) := by decide +kernel
theorem dX7_isWithin_20 : decode cX7_isWithin 20 = .ok (.ireturn, 1) := by decide +kernel
theorem dX7_copy_0 : decode cX7_copy 0 = .ok (.iload_n 1, 1) := by decide +kernel
theorem dX7_copy_1 : decode cX7_copy 1 = .ok (.invokestatic 49, 3) := by decide +kernel
theorem dX7_copy_4 : decode cX7_copy 4 = .ok (.ifCond .eq 10, 3) := by decide +kernel
theorem dX7_copy_7 : decode cX7_copy 7 = .ok (.iload_n 3, 1) := by decide +kernel
theorem dX7_copy_8 : decode cX7_copy 8 = .ok (.invokestatic 49, 3) := by decide +kernel
theorem dX7_copy_11 : decode cX7_copy 11 = .ok (.ifCond .ne 6, 3) := by decide +kernel
theorem dX7_copy_14 : decode cX7_copy 14 = .ok (.ldc 55, 2) := by decide +kernel
theorem dX7_copy_16 : decode cX7_copy 16 = .ok (.ireturn, 1) := by decide +kernel
theorem dX7_copy_17 : decode cX7_copy 17 = .ok (.aload_n 0, 1) := by decide +kernel
theorem dX7_copy_18 : decode cX7_copy 18 = .ok (.getfield 23, 3) := by decide +kernel
theorem dX7_copy_21 : decode cX7_copy 21 = .ok (.iload_n 1, 1) := by decide +kernel
theorem dX7_copy_22 : decode cX7_copy 22 = .ok (.iaload, 1) := by decide +kernel
theorem dX7_copy_23 : decode cX7_copy 23 = .ok (.ifCond .lt 12, 3) := by decide +kernel
theorem dX7_copy_26 : decode cX7_copy 26 = .ok (.aload_n 0, 1) := by decide +kernel
theorem dX7_copy_27 : decode cX7_copy 27 = .ok (.getfield 23, 3) := by decide +kernel
theorem dX7_copy_30 : decode cX7_copy 30 = .ok (.iload_n 3, 1) := by decide +kernel
theorem dX7_copy_31 : decode cX7_copy 31 = .ok (.iaload, 1) := by decide +kernel
theorem dX7_copy_32 : decode cX7_copy 32 = .ok (.ifCond .ge 9, 3) := by decide +kernel
theorem dX7_copy_35 : decode cX7_copy 35 = .ok (.aload_n 0, 1) := by decide +kernel
theorem dX7_copy_36 : decode cX7_copy 36 = .ok (.iconst 1, 1) := by decide +kernel
theorem dX7_copy_37 : decode cX7_copy 37 = .ok (.invokevirtual 56, 3) := by decide +kernel
theorem dX7_copy_40 : decode cX7_copy 40 = .ok (.ireturn, 1) := by decide +kernel
theorem dX7_copy_41 : decode cX7_copy 41 = .ok (.aload_n 0, 1) := by decide +kernel
theorem dX7_copy_42 : decode cX7_copy 42 = .ok (.getfield 26, 3) := by decide +kernel
theorem dX7_copy_45 : decode cX7_copy 45 = .ok (.iload_n 1, 1) := by decide +kernel
theorem dX7_copy_46 : decode cX7_copy 46 = .ok (.iaload, 1) := by decide +kernel
theorem dX7_copy_47 : decode cX7_copy 47 = .ok (.aload_n 0, 1) := by decide +kernel
theorem dX7_copy_48 : decode cX7_copy 48 = .ok (.getfield 26, 3) := by decide +kernel
theorem dX7_copy_51 : decode cX7_copy 51 = .ok (.iload_n 3, 1) := by decide +kernel
theorem dX7_copy_52 : decode cX7_copy 52 = .ok (.iaload, 1) := by decide +kernel
theorem dX7_copy_53 : decode cX7_copy 53 = .ok (.if_icmp .eq 9, 3) := by decide +kernel
theorem dX7_copy_56 : decode cX7_copy 56 = .ok (.aload_n 0, 1) := by decide +kernel
theorem dX7_copy_57 : decode cX7_copy 57 = .ok (.iconst 5, 1) := by decide +kernel
theorem dX7_copy_58 : decode cX7_copy 58 = .ok (.invokevirtual 56, 3) := by decide +kernel
theorem dX7_copy_61 : decode cX7_copy 61 = .ok (.ireturn, 1) := by decide +kernel
theorem dX7_copy_62 : decode cX7_copy 62 = .ok (.iload 5, 2) := by decide +kernel
theorem dX7_copy_64 : decode cX7_copy 64 = .ok (.ifCond .lt 34, 3) := by decide +kernel
theorem dX7_copy_67 : decode cX7_copy 67 = .ok (.iload_n 2, 1) := by decide +kernel
theorem dX7_copy_68 : decode cX7_copy 68 = .ok (.iload 5, 2) := by decide +kernel
theorem dX7_copy_70 : decode cX7_copy 70 = .ok (.aload_n 0, 1) := by decide +kernel
theorem dX7_copy_71 : decode cX7_copy 71 = .ok (.getfield 23, 3) := by decide +kernel
theorem dX7_copy_74 : decode cX7_copy 74 = .ok (.iload_n 1, 1) := by decide +kernel
theorem dX7_copy_75 : decode cX7_copy 75 = .ok (.iaload, 1) := by decide +kernel
theorem dX7_copy_76 : decode cX7_copy 76 = .ok (.invokestatic 63, 3) := by decide +kernel
theorem dX7_copy_79 : decode cX7_copy 79 = .ok (.ifCond .eq 19, 3) := by decide +kernel
theorem dX7_copy_82 : decode cX7_copy 82 = .ok (.iload 4, 2) := by decide +kernel
theorem dX7_copy_84 : decode cX7_copy 84 = .ok (.iload 5, 2) := by decide +kernel
theorem dX7_copy_86 : decode cX7_copy 86 = .ok (.aload_n 0, 1) := by decide +kernel
theorem dX7_copy_87 : decode cX7_copy 87 = .ok (.getfield 23, 3) := by decide +kernel
theorem dX7_copy_90 : decode cX7_copy 90 = .ok (.iload_n 3, 1) := by decide +kernel
theorem dX7_copy_91 : decode cX7_copy 91 = .ok (.iaload, 1) := by decide +kernel
theorem dX7_copy_92 : decode cX7_copy 92 = .ok (.invokestatic 63, 3) := by decide +kernel
theorem dX7_copy_95 : decode cX7_copy 95 = .ok (.ifCond .ne 9, 3) := by decide +kernel
theorem dX7_copy_98 : decode cX7_copy 98 = .ok (.aload_n 0, 1) := by decide +kernel
theorem dX7_copy_99 : decode cX7_copy 99 = .ok (.iconst 2, 1) := by decide +kernel
theorem dX7_copy_100 : decode cX7_copy 100 = .ok (.invokevirtual 56, 3) := by decide +kernel
theorem dX7_copy_103 : decode cX7_copy 103 = .ok (.ireturn, 1) := by decide +kernel
theorem dX7_copy_104 : decode cX7_copy 104 = .ok (.iconst 0, 1) := by decide +kernel
theorem dX7_copy_105 : decode cX7_copy 105 = .ok (.istore 6, 2) := by decide +kernel
theorem dX7_copy_107 : decode cX7_copy 107 = .ok (.iload 6, 2) := by decide +kernel
theorem dX7_copy_109 : decode cX7_copy 109 = .ok (.iload 5, 2) := by decide +kernel
theorem dX7_copy_111 : decode cX7_copy 111 = .ok (.if_icmp .ge 30, 3) := by decide +kernel
theorem dX7_copy_114 : decode cX7_copy 114 = .ok (.aload_n 0, 1) := by decide +kernel
theorem dX7_copy_115 : decode cX7_copy 115 = .ok (.getfield 35, 3) := by decide +kernel
theorem dX7_copy_118 : decode cX7_copy 118 = .ok (.iload 6, 2) := by decide +kernel
theorem dX7_copy_120 : decode cX7_copy 120 = .ok (.aload_n 0, 1) := by decide +kernel
theorem dX7_copy_121 : decode cX7_copy 121 = .ok (.getfield 20, 3) := by decide +kernel
theorem dX7_copy_124 : decode cX7_copy 124 = .ok (.bipush 40, 2) := by decide +kernel
theorem dX7_copy_126 : decode cX7_copy 126 = .ok (.iload_n 1, 1) := by decide +kernel
theorem dX7_copy_127 : decode cX7_copy 127 = .ok (.imul, 1) := by decide +kernel
theorem dX7_copy_128 : decode cX7_copy 128 = .ok (.iload_n 2, 1) := by decide +kernel
theorem dX7_copy_129 : decode cX7_copy 129 = .ok (.iadd, 1) := by decide +kernel
theorem dX7_copy_130 : decode cX7_copy 130 = .ok (.iload 6, 2) := by decide +kernel
theorem dX7_copy_132 : decode cX7_copy 132 = .ok (.iadd, 1) := by decide +kernel
theorem dX7_copy_133 : decode cX7_copy 133 = .ok (.iaload, 1) := by decide +kernel
theorem dX7_copy_134 : decode cX7_copy 134 = .ok (.iastore, 1) := by decide +kernel
theorem dX7_copy_135 : decode cX7_copy 135 = .ok (.iinc 6 1, 3) := by decide +kernel
theorem dX7_copy_138 : decode cX7_copy 138 = .ok (.goto (-31), 3) := by decide +kernel
theorem dX7_copy_141 : decode cX7_copy 141 = .ok (.iconst 0, 1) := by decide +kernel
theorem dX7_copy_142 : decode cX7_copy 142 = .ok (.istore 6, 2) := by decide +kernel
theorem dX7_copy_144 : decode cX7_copy 144 = .ok (.iload 6, 2) := by decide +kernel
theorem dX7_copy_146 : decode cX7_copy 146 = .ok (.iload 5, 2) := by decide +kernel
theorem dX7_copy_148 : decode cX7_copy 148 = .ok (.if_icmp .ge 31, 3) := by decide +kernel
theorem dX7_copy_151 : decode cX7_copy 151 = .ok (.aload_n 0, 1) := by decide +kernel
theorem dX7_copy_152 : decode cX7_copy 152 = .ok (.getfield 20, 3) := by decide +kernel
theorem dX7_copy_155 : decode cX7_copy 155 = .ok (.bipush 40, 2) := by decide +kernel
theorem dX7_copy_157 : decode cX7_copy 157 = .ok (.iload_n 3, 1) := by decide +kernel
theorem dX7_copy_158 : decode cX7_copy 158 = .ok (.imul, 1) := by decide +kernel
theorem dX7_copy_159 : decode cX7_copy 159 = .ok (.iload 4, 2) := by decide +kernel
theorem dX7_copy_161 : decode cX7_copy 161 = .ok (.iadd, 1) := by decide +kernel
theorem dX7_copy_162 : decode cX7_copy 162 = .ok (.iload 6, 2) := by decide +kernel
theorem dX7_copy_164 : decode cX7_copy 164 = .ok (.iadd, 1) := by decide +kernel
theorem dX7_copy_165 : decode cX7_copy 165 = .ok (.aload_n 0, 1) := by decide +kernel
theorem dX7_copy_166 : decode cX7_copy 166 = .ok (.getfield 35, 3) := by decide +kernel
theorem dX7_copy_169 : decode cX7_copy 169 = .ok (.iload 6, 2) := by decide +kernel
theorem dX7_copy_171 : decode cX7_copy 171 = .ok (.iaload, 1) := by decide +kernel
theorem dX7_copy_172 : decode cX7_copy 172 = .ok (.iastore, 1) := by decide +kernel
theorem dX7_copy_173 : decode cX7_copy 173 = .ok (.iinc 6 1, 3) := by decide +kernel
theorem dX7_copy_176 : decode cX7_copy 176 = .ok (.goto (-32), 3) := by decide +kernel
theorem dX7_copy_179 : decode cX7_copy 179 = .ok (.aload_n 0, 1) := by decide +kernel
theorem dX7_copy_180 : decode cX7_copy 180 = .ok (.iload 5, 2) := by decide +kernel
theorem dX7_copy_182 : decode cX7_copy 182 = .ok (.invokevirtual 60, 3) := by decide +kernel
theorem dX7_copy_185 : decode cX7_copy 185 = .ok (.ireturn, 1) := by decide +kernel
theorem dX7_drop_0 : decode cX7_drop 0 = .ok (.iload_n 1, 1) := by decide +kernel
theorem dX7_drop_1 : decode cX7_drop 1 = .ok (.invokestatic 49, 3) := by decide +kernel
theorem dX7_drop_4 : decode cX7_drop 4 = .ok (.ifCond .ne 6, 3) := by decide +kernel
theorem dX7_drop_7 : decode cX7_drop 7 = .ok (.ldc 55, 2) := by decide +kernel
theorem dX7_drop_9 : decode cX7_drop 9 = .ok (.ireturn, 1) := by decide +kernel
theorem dX7_drop_10 : decode cX7_drop 10 = .ok (.aload_n 0, 1) := by decide +kernel
theorem dX7_drop_11 : decode cX7_drop 11 = .ok (.getfield 23, 3) := by decide +kernel
theorem dX7_drop_14 : decode cX7_drop 14 = .ok (.iload_n 1, 1) := by decide +kernel
theorem dX7_drop_15 : decode cX7_drop 15 = .ok (.iaload, 1) := by decide +kernel
theorem dX7_drop_16 : decode cX7_drop 16 = .ok (.ifCond .ge 9, 3) := by decide +kernel
theorem dX7_drop_19 : decode cX7_drop 19 = .ok (.aload_n 0, 1) := by decide +kernel
theorem dX7_drop_20 : decode cX7_drop 20 = .ok (.iconst 1, 1) := by decide +kernel
theorem dX7_drop_21 : decode cX7_drop 21 = .ok (.invokevirtual 56, 3) := by decide +kernel
theorem dX7_drop_24 : decode cX7_drop 24 = .ok (.ireturn, 1) := by decide +kernel
theorem dX7_drop_25 : decode cX7_drop 25 = .ok (.aload_n 0, 1) := by decide +kernel
theorem dX7_drop_26 : decode cX7_drop 26 = .ok (.getfield 23, 3) := by decide +kernel
theorem dX7_drop_29 : decode cX7_drop 29 = .ok (.iload_n 1, 1) := by decide +kernel
theorem dX7_drop_30 : decode cX7_drop 30 = .ok (.iaload, 1) := by decide +kernel
theorem dX7_drop_31 : decode cX7_drop 31 = .ok (.istore_n 2, 1) := by decide +kernel
theorem dX7_drop_32 : decode cX7_drop 32 = .ok (.aload_n 0, 1) := by decide +kernel
theorem dX7_drop_33 : decode cX7_drop 33 = .ok (.getfield 23, 3) := by decide +kernel
theorem dX7_drop_36 : decode cX7_drop 36 = .ok (.iload_n 1, 1) := by decide +kernel
theorem dX7_drop_37 : decode cX7_drop 37 = .ok (.iconst (-1), 1) := by decide +kernel
theorem dX7_drop_38 : decode cX7_drop 38 = .ok (.iastore, 1) := by decide +kernel
theorem dX7_drop_39 : decode cX7_drop 39 = .ok (.aload_n 0, 1) := by decide +kernel
theorem dX7_drop_40 : decode cX7_drop 40 = .ok (.iload_n 2, 1) := by decide +kernel
theorem dX7_drop_41 : decode cX7_drop 41 = .ok (.invokevirtual 60, 3) := by decide +kernel
theorem dX7_drop_44 : decode cX7_drop 44 = .ok (.ireturn, 1) := by decide +kernel
theorem dX7_against_0 : decode cX7_against 0 = .ok (.aload_n 0, 1) := by decide +kernel
theorem dX7_against_1 : decode cX7_against 1 = .ok (.getfield 23, 3) := by decide +kernel
theorem dX7_against_4 : decode cX7_against 4 = .ok (.iload_n 1, 1) := by decide +kernel
theorem dX7_against_5 : decode cX7_against 5 = .ok (.iaload, 1) := by decide +kernel
theorem dX7_against_6 : decode cX7_against 6 = .ok (.ifCond .ge 9, 3) := by decide +kernel
theorem dX7_against_9 : decode cX7_against 9 = .ok (.aload_n 0, 1) := by decide +kernel
theorem dX7_against_10 : decode cX7_against 10 = .ok (.iconst 1, 1) := by decide +kernel
theorem dX7_against_11 : decode cX7_against 11 = .ok (.invokevirtual 56, 3) := by decide +kernel
theorem dX7_against_14 : decode cX7_against 14 = .ok (.ireturn, 1) := by decide +kernel
theorem dX7_against_15 : decode cX7_against 15 = .ok (.iload_n 2, 1) := by decide +kernel
theorem dX7_against_16 : decode cX7_against 16 = .ok (.iload_n 3, 1) := by decide +kernel
theorem dX7_against_17 : decode cX7_against 17 = .ok (.aload_n 0, 1) := by decide +kernel
theorem dX7_against_18 : decode cX7_against 18 = .ok (.getfield 23, 3) := by decide +kernel
theorem dX7_against_21 : decode cX7_against 21 = .ok (.iload_n 1, 1) := by decide +kernel
theorem dX7_against_22 : decode cX7_against 22 = .ok (.iaload, 1) := by decide +kernel
theorem dX7_against_23 : decode cX7_against 23 = .ok (.invokestatic 63, 3) := by decide +kernel
theorem dX7_against_26 : decode cX7_against 26 = .ok (.ifCond .eq 7, 3) := by decide +kernel
theorem dX7_against_29 : decode cX7_against 29 = .ok (.iconst 0, 1) := by decide +kernel
theorem dX7_against_30 : decode cX7_against 30 = .ok (.goto 8, 3) := by decide +kernel
theorem dX7_against_33 : decode cX7_against 33 = .ok (.aload_n 0, 1) := by decide +kernel
theorem dX7_against_34 : decode cX7_against 34 = .ok (.iconst 2, 1) := by decide +kernel
theorem dX7_against_35 : decode cX7_against 35 = .ok (.invokevirtual 56, 3) := by decide +kernel
theorem dX7_against_38 : decode cX7_against 38 = .ok (.ireturn, 1) := by decide +kernel
theorem dX7_feed_0 : decode cX7_feed 0 = .ok (.iload_n 1, 1) := by decide +kernel
theorem dX7_feed_1 : decode cX7_feed 1 = .ok (.i2l, 1) := by decide +kernel
theorem dX7_feed_2 : decode cX7_feed 2 = .ok (.lconst 0, 1) := by decide +kernel
theorem dX7_feed_3 : decode cX7_feed 3 = .ok (.ldc2_w 67, 3) := by decide +kernel
theorem dX7_feed_6 : decode cX7_feed 6 = .ok (.invokestatic 45, 3) := by decide +kernel
theorem dX7_feed_9 : decode cX7_feed 9 = .ok (.ifCond .ne 6, 3) := by decide +kernel
theorem dX7_feed_12 : decode cX7_feed 12 = .ok (.ldc 55, 2) := by decide +kernel
theorem dX7_feed_14 : decode cX7_feed 14 = .ok (.ireturn, 1) := by decide +kernel
theorem dX7_feed_15 : decode cX7_feed 15 = .ok (.aload_n 0, 1) := by decide +kernel
theorem dX7_feed_16 : decode cX7_feed 16 = .ok (.getfield 69, 3) := by decide +kernel
theorem dX7_feed_19 : decode cX7_feed 19 = .ok (.bipush 100, 2) := by decide +kernel
theorem dX7_feed_21 : decode cX7_feed 21 = .ok (.if_icmp .ne 6, 3) := by decide +kernel
theorem dX7_feed_24 : decode cX7_feed 24 = .ok (.ldc 72, 2) := by decide +kernel
theorem dX7_feed_26 : decode cX7_feed 26 = .ok (.ireturn, 1) := by decide +kernel
theorem dX7_feed_27 : decode cX7_feed 27 = .ok (.aload_n 0, 1) := by decide +kernel
theorem dX7_feed_28 : decode cX7_feed 28 = .ok (.getfield 29, 3) := by decide +kernel
theorem dX7_feed_31 : decode cX7_feed 31 = .ok (.aload_n 0, 1) := by decide +kernel
theorem dX7_feed_32 : decode cX7_feed 32 = .ok (.getfield 69, 3) := by decide +kernel
theorem dX7_feed_35 : decode cX7_feed 35 = .ok (.iload_n 1, 1) := by decide +kernel
theorem dX7_feed_36 : decode cX7_feed 36 = .ok (.iastore, 1) := by decide +kernel
theorem dX7_feed_37 : decode cX7_feed 37 = .ok (.aload_n 0, 1) := by decide +kernel
theorem dX7_feed_38 : decode cX7_feed 38 = .ok (.dup, 1) := by decide +kernel
theorem dX7_feed_39 : decode cX7_feed 39 = .ok (.getfield 69, 3) := by decide +kernel
theorem dX7_feed_42 : decode cX7_feed 42 = .ok (.iconst 1, 1) := by decide +kernel
theorem dX7_feed_43 : decode cX7_feed 43 = .ok (.iadd, 1) := by decide +kernel
theorem dX7_feed_44 : decode cX7_feed 44 = .ok (.putfield 69, 3) := by decide +kernel
theorem dX7_feed_47 : decode cX7_feed 47 = .ok (.aload_n 0, 1) := by decide +kernel
theorem dX7_feed_48 : decode cX7_feed 48 = .ok (.getfield 69, 3) := by decide +kernel
theorem dX7_feed_51 : decode cX7_feed 51 = .ok (.ireturn, 1) := by decide +kernel
theorem dX7_byteAt_0 : decode cX7_byteAt 0 = .ok (.iload_n 1, 1) := by decide +kernel
theorem dX7_byteAt_1 : decode cX7_byteAt 1 = .ok (.aload_n 0, 1) := by decide +kernel
theorem dX7_byteAt_2 : decode cX7_byteAt 2 = .ok (.getfield 69, 3) := by decide +kernel
theorem dX7_byteAt_5 : decode cX7_byteAt 5 = .ok (.if_icmp .ge 12, 3) := by decide +kernel
theorem dX7_byteAt_8 : decode cX7_byteAt 8 = .ok (.aload_n 0, 1) := by decide +kernel
theorem dX7_byteAt_9 : decode cX7_byteAt 9 = .ok (.getfield 29, 3) := by decide +kernel
theorem dX7_byteAt_12 : decode cX7_byteAt 12 = .ok (.iload_n 1, 1) := by decide +kernel
theorem dX7_byteAt_13 : decode cX7_byteAt 13 = .ok (.iaload, 1) := by decide +kernel
theorem dX7_byteAt_14 : decode cX7_byteAt 14 = .ok (.goto 4, 3) := by decide +kernel
theorem dX7_byteAt_17 : decode cX7_byteAt 17 = .ok (.iconst (-1), 1) := by decide +kernel
theorem dX7_byteAt_18 : decode cX7_byteAt 18 = .ok (.ireturn, 1) := by decide +kernel
theorem dX7_fails_0 : decode cX7_fails 0 = .ok (.aload_n 0, 1) := by decide +kernel
theorem dX7_fails_1 : decode cX7_fails 1 = .ok (.iload_n 1, 1) := by decide +kernel
theorem dX7_fails_2 : decode cX7_fails 2 = .ok (.putfield 73, 3) := by decide +kernel
theorem dX7_fails_5 : decode cX7_fails 5 = .ok (.aload_n 0, 1) := by decide +kernel
theorem dX7_fails_6 : decode cX7_fails 6 = .ok (.iload_n 2, 1) := by decide +kernel
theorem dX7_fails_7 : decode cX7_fails 7 = .ok (.putfield 76, 3) := by decide +kernel
theorem dX7_fails_10 : decode cX7_fails 10 = .ok (.iconst 0, 1) := by decide +kernel
theorem dX7_fails_11 : decode cX7_fails 11 = .ok (.ireturn, 1) := by decide +kernel
theorem dX7_takes_0 : decode cX7_takes 0 = .ok (.aload_n 0, 1) := by decide +kernel
theorem dX7_takes_1 : decode cX7_takes 1 = .ok (.aload_n 0, 1) := by decide +kernel
theorem dX7_takes_2 : decode cX7_takes 2 = .ok (.getfield 79, 3) := by decide +kernel
theorem dX7_takes_5 : decode cX7_takes 5 = .ok (.invokevirtual 82, 3) := by decide +kernel
theorem dX7_takes_8 : decode cX7_takes 8 = .ok (.iload_n 1, 1) := by decide +kernel
theorem dX7_takes_9 : decode cX7_takes 9 = .ok (.if_icmp .eq 13, 3) := by decide +kernel
theorem dX7_takes_12 : decode cX7_takes 12 = .ok (.aload_n 0, 1) := by decide +kernel
theorem dX7_takes_13 : decode cX7_takes 13 = .ok (.iconst 1, 1) := by decide +kernel
theorem dX7_takes_14 : decode cX7_takes 14 = .ok (.aload_n 0, 1) := by decide +kernel
theorem dX7_takes_15 : decode cX7_takes 15 = .ok (.getfield 79, 3) := by decide +kernel
theorem dX7_takes_18 : decode cX7_takes 18 = .ok (.invokevirtual 85, 3) := by decide +kernel
theorem dX7_takes_21 : decode cX7_takes 21 = .ok (.ireturn, 1) := by decide +kernel
theorem dX7_takes_22 : decode cX7_takes 22 = .ok (.aload_n 0, 1) := by decide +kernel
theorem dX7_takes_23 : decode cX7_takes 23 = .ok (.dup, 1) := by decide +kernel
theorem dX7_takes_24 : decode cX7_takes 24 = .ok (.getfield 79, 3) := by decide +kernel
theorem dX7_takes_27 : decode cX7_takes 27 = .ok (.iconst 1, 1) := by decide +kernel
theorem dX7_takes_28 : decode cX7_takes 28 = .ok (.iadd, 1) := by decide +kernel
theorem dX7_takes_29 : decode cX7_takes 29 = .ok (.putfield 79, 3) := by decide +kernel
theorem dX7_takes_32 : decode cX7_takes 32 = .ok (.iconst 1, 1) := by decide +kernel
theorem dX7_takes_33 : decode cX7_takes 33 = .ok (.ireturn, 1) := by decide +kernel
theorem dX7_takesNumber_0 : decode cX7_takesNumber 0 = .ok (.aload_n 0, 1) := by decide +kernel
theorem dX7_takesNumber_1 : decode cX7_takesNumber 1 = .ok (.getfield 79, 3) := by decide +kernel
theorem dX7_takesNumber_4 : decode cX7_takesNumber 4 = .ok (.istore 4, 2) := by decide +kernel
theorem dX7_takesNumber_6 : decode cX7_takesNumber 6 = .ok (.aload_n 0, 1) := by decide +kernel
theorem dX7_takesNumber_7 : decode cX7_takesNumber 7 = .ok (.iconst 0, 1) := by decide +kernel
theorem dX7_takesNumber_8 : decode cX7_takesNumber 8 = .ok (.putfield 89, 3) := by decide +kernel
theorem dX7_takesNumber_11 : decode cX7_takesNumber 11 = .ok (.aload_n 0, 1) := by decide +kernel
theorem dX7_takesNumber_12 : decode cX7_takesNumber 12 = .ok (.aload_n 0, 1) := by decide +kernel
theorem dX7_takesNumber_13 : decode cX7_takesNumber 13 = .ok (.getfield 79, 3) := by decide +kernel
theorem dX7_takesNumber_16 : decode cX7_takesNumber 16 = .ok (.invokevirtual 82, 3) := by decide +kernel
theorem dX7_takesNumber_19 : decode cX7_takesNumber 19 = .ok (.i2l, 1) := by decide +kernel
theorem dX7_takesNumber_20 : decode cX7_takesNumber 20 = .ok (.ldc2_w 92, 3) := by decide +kernel
theorem dX7_takesNumber_23 : decode cX7_takesNumber 23 = .ok (.ldc2_w 94, 3) := by decide +kernel
theorem dX7_takesNumber_26 : decode cX7_takesNumber 26 = .ok (.invokestatic 45, 3) := by decide +kernel
theorem dX7_takesNumber_29 : decode cX7_takesNumber 29 = .ok (.ifCond .eq 57, 3) := by decide +kernel
theorem dX7_takesNumber_32 : decode cX7_takesNumber 32 = .ok (.aload_n 0, 1) := by decide +kernel
theorem dX7_takesNumber_33 : decode cX7_takesNumber 33 = .ok (.aload_n 0, 1) := by decide +kernel
theorem dX7_takesNumber_34 : decode cX7_takesNumber 34 = .ok (.getfield 79, 3) := by decide +kernel
theorem dX7_takesNumber_37 : decode cX7_takesNumber 37 = .ok (.iload 4, 2) := by decide +kernel
theorem dX7_takesNumber_39 : decode cX7_takesNumber 39 = .ok (.isub, 1) := by decide +kernel
theorem dX7_takesNumber_40 : decode cX7_takesNumber 40 = .ok (.iconst 2, 1) := by decide +kernel
theorem dX7_takesNumber_41 : decode cX7_takesNumber 41 = .ok (.if_icmp .ge 25, 3) := by decide +kernel
theorem dX7_takesNumber_44 : decode cX7_takesNumber 44 = .ok (.bipush 10, 2) := by decide +kernel
theorem dX7_takesNumber_46 : decode cX7_takesNumber 46 = .ok (.aload_n 0, 1) := by decide +kernel
theorem dX7_takesNumber_47 : decode cX7_takesNumber 47 = .ok (.getfield 89, 3) := by decide +kernel
theorem dX7_takesNumber_50 : decode cX7_takesNumber 50 = .ok (.imul, 1) := by decide +kernel
theorem dX7_takesNumber_51 : decode cX7_takesNumber 51 = .ok (.aload_n 0, 1) := by decide +kernel
theorem dX7_takesNumber_52 : decode cX7_takesNumber 52 = .ok (.aload_n 0, 1) := by decide +kernel
theorem dX7_takesNumber_53 : decode cX7_takesNumber 53 = .ok (.getfield 79, 3) := by decide +kernel
theorem dX7_takesNumber_56 : decode cX7_takesNumber 56 = .ok (.invokevirtual 82, 3) := by decide +kernel
theorem dX7_takesNumber_59 : decode cX7_takesNumber 59 = .ok (.iadd, 1) := by decide +kernel
theorem dX7_takesNumber_60 : decode cX7_takesNumber 60 = .ok (.bipush 48, 2) := by decide +kernel
theorem dX7_takesNumber_62 : decode cX7_takesNumber 62 = .ok (.isub, 1) := by decide +kernel
theorem dX7_takesNumber_63 : decode cX7_takesNumber 63 = .ok (.goto 7, 3) := by decide +kernel
theorem dX7_takesNumber_66 : decode cX7_takesNumber 66 = .ok (.aload_n 0, 1) := by decide +kernel
theorem dX7_takesNumber_67 : decode cX7_takesNumber 67 = .ok (.getfield 89, 3) := by decide +kernel
theorem dX7_takesNumber_70 : decode cX7_takesNumber 70 = .ok (.putfield 89, 3) := by decide +kernel
theorem dX7_takesNumber_73 : decode cX7_takesNumber 73 = .ok (.aload_n 0, 1) := by decide +kernel
theorem dX7_takesNumber_74 : decode cX7_takesNumber 74 = .ok (.dup, 1) := by decide +kernel
theorem dX7_takesNumber_75 : decode cX7_takesNumber 75 = .ok (.getfield 79, 3) := by decide +kernel
theorem dX7_takesNumber_78 : decode cX7_takesNumber 78 = .ok (.iconst 1, 1) := by decide +kernel
theorem dX7_takesNumber_79 : decode cX7_takesNumber 79 = .ok (.iadd, 1) := by decide +kernel
theorem dX7_takesNumber_80 : decode cX7_takesNumber 80 = .ok (.putfield 79, 3) := by decide +kernel
theorem dX7_takesNumber_83 : decode cX7_takesNumber 83 = .ok (.goto (-72), 3) := by decide +kernel
theorem dX7_takesNumber_86 : decode cX7_takesNumber 86 = .ok (.aload_n 0, 1) := by decide +kernel
theorem dX7_takesNumber_87 : decode cX7_takesNumber 87 = .ok (.getfield 79, 3) := by decide +kernel
theorem dX7_takesNumber_90 : decode cX7_takesNumber 90 = .ok (.iload 4, 2) := by decide +kernel
theorem dX7_takesNumber_92 : decode cX7_takesNumber 92 = .ok (.if_icmp .eq 14, 3) := by decide +kernel
theorem dX7_takesNumber_95 : decode cX7_takesNumber 95 = .ok (.aload_n 0, 1) := by decide +kernel
theorem dX7_takesNumber_96 : decode cX7_takesNumber 96 = .ok (.getfield 79, 3) := by decide +kernel
theorem dX7_takesNumber_99 : decode cX7_takesNumber 99 = .ok (.iload 4, 2) := by decide +kernel
theorem dX7_takesNumber_101 : decode cX7_takesNumber 101 = .ok (.isub, 1) := by decide +kernel
theorem dX7_takesNumber_102 : decode cX7_takesNumber 102 = .ok (.iconst 2, 1) := by decide +kernel
theorem dX7_takesNumber_103 : decode cX7_takesNumber 103 = .ok (.if_icmp .le 11, 3) := by decide +kernel
theorem dX7_takesNumber_106 : decode cX7_takesNumber 106 = .ok (.aload_n 0, 1) := by decide +kernel
theorem dX7_takesNumber_107 : decode cX7_takesNumber 107 = .ok (.iconst 1, 1) := by decide +kernel
theorem dX7_takesNumber_108 : decode cX7_takesNumber 108 = .ok (.iload 4, 2) := by decide +kernel
theorem dX7_takesNumber_110 : decode cX7_takesNumber 110 = .ok (.invokevirtual 85, 3) := by decide +kernel
theorem dX7_takesNumber_113 : decode cX7_takesNumber 113 = .ok (.ireturn, 1) := by decide +kernel
theorem dX7_takesNumber_114 : decode cX7_takesNumber 114 = .ok (.aload_n 0, 1) := by decide +kernel
theorem dX7_takesNumber_115 : decode cX7_takesNumber 115 = .ok (.getfield 89, 3) := by decide +kernel
theorem dX7_takesNumber_118 : decode cX7_takesNumber 118 = .ok (.i2l, 1) := by decide +kernel
theorem dX7_takesNumber_119 : decode cX7_takesNumber 119 = .ok (.iload_n 1, 1) := by decide +kernel
theorem dX7_takesNumber_120 : decode cX7_takesNumber 120 = .ok (.i2l, 1) := by decide +kernel
theorem dX7_takesNumber_121 : decode cX7_takesNumber 121 = .ok (.iload_n 2, 1) := by decide +kernel
theorem dX7_takesNumber_122 : decode cX7_takesNumber 122 = .ok (.i2l, 1) := by decide +kernel
theorem dX7_takesNumber_123 : decode cX7_takesNumber 123 = .ok (.invokestatic 45, 3) := by decide +kernel
theorem dX7_takesNumber_126 : decode cX7_takesNumber 126 = .ok (.ifCond .eq 11, 3) := by decide +kernel
theorem dX7_takesNumber_129 : decode cX7_takesNumber 129 = .ok (.aload_n 0, 1) := by decide +kernel
theorem dX7_takesNumber_130 : decode cX7_takesNumber 130 = .ok (.iload_n 3, 1) := by decide +kernel
theorem dX7_takesNumber_131 : decode cX7_takesNumber 131 = .ok (.invokevirtual 96, 3) := by decide +kernel
theorem dX7_takesNumber_134 : decode cX7_takesNumber 134 = .ok (.goto 10, 3) := by decide +kernel
theorem dX7_takesNumber_137 : decode cX7_takesNumber 137 = .ok (.aload_n 0, 1) := by decide +kernel
theorem dX7_takesNumber_138 : decode cX7_takesNumber 138 = .ok (.iconst 2, 1) := by decide +kernel
theorem dX7_takesNumber_139 : decode cX7_takesNumber 139 = .ok (.iload 4, 2) := by decide +kernel
theorem dX7_takesNumber_141 : decode cX7_takesNumber 141 = .ok (.invokevirtual 85, 3) := by decide +kernel
theorem dX7_takesNumber_144 : decode cX7_takesNumber 144 = .ok (.ireturn, 1) := by decide +kernel
theorem dX7_takesLaw_0 : decode cX7_takesLaw 0 = .ok (.iconst 0, 1) := by decide +kernel
theorem dX7_takesLaw_1 : decode cX7_takesLaw 1 = .ok (.istore_n 1, 1) := by decide +kernel
theorem dX7_takesLaw_2 : decode cX7_takesLaw 2 = .ok (.iload_n 1, 1) := by decide +kernel
theorem dX7_takesLaw_3 : decode cX7_takesLaw 3 = .ok (.bipush 36, 2) := by decide +kernel
theorem dX7_takesLaw_5 : decode cX7_takesLaw 5 = .ok (.if_icmp .ge 19, 3) := by decide +kernel
theorem dX7_takesLaw_8 : decode cX7_takesLaw 8 = .ok (.aload_n 0, 1) := by decide +kernel
theorem dX7_takesLaw_9 : decode cX7_takesLaw 9 = .ok (.getfield 7, 3) := by decide +kernel
theorem dX7_takesLaw_12 : decode cX7_takesLaw 12 = .ok (.bipush 108, 2) := by decide +kernel
theorem dX7_takesLaw_14 : decode cX7_takesLaw 14 = .ok (.iload_n 1, 1) := by decide +kernel
theorem dX7_takesLaw_15 : decode cX7_takesLaw 15 = .ok (.iadd, 1) := by decide +kernel
theorem dX7_takesLaw_16 : decode cX7_takesLaw 16 = .ok (.iconst 0, 1) := by decide +kernel
theorem dX7_takesLaw_17 : decode cX7_takesLaw 17 = .ok (.iastore, 1) := by decide +kernel
theorem dX7_takesLaw_18 : decode cX7_takesLaw 18 = .ok (.iinc 1 1, 3) := by decide +kernel
theorem dX7_takesLaw_21 : decode cX7_takesLaw 21 = .ok (.goto (-19), 3) := by decide +kernel
theorem dX7_takesLaw_24 : decode cX7_takesLaw 24 = .ok (.aload_n 0, 1) := by decide +kernel
theorem dX7_takesLaw_25 : decode cX7_takesLaw 25 = .ok (.getfield 7, 3) := by decide +kernel
theorem dX7_takesLaw_28 : decode cX7_takesLaw 28 = .ok (.bipush 126, 2) := by decide +kernel
theorem dX7_takesLaw_30 : decode cX7_takesLaw 30 = .ok (.iconst 1, 1) := by decide +kernel
theorem dX7_takesLaw_31 : decode cX7_takesLaw 31 = .ok (.iastore, 1) := by decide +kernel
theorem dX7_takesLaw_32 : decode cX7_takesLaw 32 = .ok (.aload_n 0, 1) := by decide +kernel
theorem dX7_takesLaw_33 : decode cX7_takesLaw 33 = .ok (.bipush 108, 2) := by decide +kernel
theorem dX7_takesLaw_35 : decode cX7_takesLaw 35 = .ok (.invokevirtual 96, 3) := by decide +kernel
theorem dX7_takesLaw_38 : decode cX7_takesLaw 38 = .ok (.ifCond .eq 15, 3) := by decide +kernel
theorem dX7_takesLaw_41 : decode cX7_takesLaw 41 = .ok (.aload_n 0, 1) := by decide +kernel
theorem dX7_takesLaw_42 : decode cX7_takesLaw 42 = .ok (.iconst 0, 1) := by decide +kernel
theorem dX7_takesLaw_43 : decode cX7_takesLaw 43 = .ok (.bipush 20, 2) := by decide +kernel
theorem dX7_takesLaw_45 : decode cX7_takesLaw 45 = .ok (.bipush 44, 2) := by decide +kernel
theorem dX7_takesLaw_47 : decode cX7_takesLaw 47 = .ok (.invokevirtual 99, 3) := by decide +kernel
theorem dX7_takesLaw_50 : decode cX7_takesLaw 50 = .ok (.ifCond .ne 5, 3) := by decide +kernel
theorem dX7_takesLaw_53 : decode cX7_takesLaw 53 = .ok (.iconst 0, 1) := by decide +kernel
theorem dX7_takesLaw_54 : decode cX7_takesLaw 54 = .ok (.ireturn, 1) := by decide +kernel
theorem dX7_takesLaw_55 : decode cX7_takesLaw 55 = .ok (.aload_n 0, 1) := by decide +kernel
theorem dX7_takesLaw_56 : decode cX7_takesLaw 56 = .ok (.getfield 7, 3) := by decide +kernel
theorem dX7_takesLaw_59 : decode cX7_takesLaw 59 = .ok (.bipush 127, 2) := by decide +kernel
theorem dX7_takesLaw_61 : decode cX7_takesLaw 61 = .ok (.aload_n 0, 1) := by decide +kernel
theorem dX7_takesLaw_62 : decode cX7_takesLaw 62 = .ok (.getfield 89, 3) := by decide +kernel
theorem dX7_takesLaw_65 : decode cX7_takesLaw 65 = .ok (.iastore, 1) := by decide +kernel
theorem dX7_takesLaw_66 : decode cX7_takesLaw 66 = .ok (.aload_n 0, 1) := by decide +kernel
theorem dX7_takesLaw_67 : decode cX7_takesLaw 67 = .ok (.iconst 0, 1) := by decide +kernel
theorem dX7_takesLaw_68 : decode cX7_takesLaw 68 = .ok (.bipush 6, 2) := by decide +kernel
theorem dX7_takesLaw_70 : decode cX7_takesLaw 70 = .ok (.bipush 59, 2) := by decide +kernel
theorem dX7_takesLaw_72 : decode cX7_takesLaw 72 = .ok (.invokevirtual 99, 3) := by decide +kernel
theorem dX7_takesLaw_75 : decode cX7_takesLaw 75 = .ok (.ifCond .ne 5, 3) := by decide +kernel
theorem dX7_takesLaw_78 : decode cX7_takesLaw 78 = .ok (.iconst 0, 1) := by decide +kernel
theorem dX7_takesLaw_79 : decode cX7_takesLaw 79 = .ok (.ireturn, 1) := by decide +kernel
theorem dX7_takesLaw_80 : decode cX7_takesLaw 80 = .ok (.aload_n 0, 1) := by decide +kernel
theorem dX7_takesLaw_81 : decode cX7_takesLaw 81 = .ok (.getfield 7, 3) := by decide +kernel
theorem dX7_takesLaw_84 : decode cX7_takesLaw 84 = .ok (.sipush 128, 3) := by decide +kernel
theorem dX7_takesLaw_87 : decode cX7_takesLaw 87 = .ok (.aload_n 0, 1) := by decide +kernel
theorem dX7_takesLaw_88 : decode cX7_takesLaw 88 = .ok (.getfield 89, 3) := by decide +kernel
theorem dX7_takesLaw_91 : decode cX7_takesLaw 91 = .ok (.iastore, 1) := by decide +kernel
theorem dX7_takesLaw_92 : decode cX7_takesLaw 92 = .ok (.iconst 1, 1) := by decide +kernel
theorem dX7_takesLaw_93 : decode cX7_takesLaw 93 = .ok (.ireturn, 1) := by decide +kernel
theorem dX7_takesClient_0 : decode cX7_takesClient 0 = .ok (.aload_n 0, 1) := by decide +kernel
theorem dX7_takesClient_1 : decode cX7_takesClient 1 = .ok (.getfield 7, 3) := by decide +kernel
theorem dX7_takesClient_4 : decode cX7_takesClient 4 = .ok (.sipush 129, 3) := by decide +kernel
theorem dX7_takesClient_7 : decode cX7_takesClient 7 = .ok (.iaload, 1) := by decide +kernel
theorem dX7_takesClient_8 : decode cX7_takesClient 8 = .ok (.istore_n 1, 1) := by decide +kernel
theorem dX7_takesClient_9 : decode cX7_takesClient 9 = .ok (.iload_n 1, 1) := by decide +kernel
theorem dX7_takesClient_10 : decode cX7_takesClient 10 = .ok (.iconst 5, 1) := by decide +kernel
theorem dX7_takesClient_11 : decode cX7_takesClient 11 = .ok (.if_icmp .ne 13, 3) := by decide +kernel
theorem dX7_takesClient_14 : decode cX7_takesClient 14 = .ok (.aload_n 0, 1) := by decide +kernel
theorem dX7_takesClient_15 : decode cX7_takesClient 15 = .ok (.iconst 3, 1) := by decide +kernel
theorem dX7_takesClient_16 : decode cX7_takesClient 16 = .ok (.aload_n 0, 1) := by decide +kernel
theorem dX7_takesClient_17 : decode cX7_takesClient 17 = .ok (.getfield 79, 3) := by decide +kernel
theorem dX7_takesClient_20 : decode cX7_takesClient 20 = .ok (.invokevirtual 85, 3) := by decide +kernel
theorem dX7_takesClient_23 : decode cX7_takesClient 23 = .ok (.ireturn, 1) := by decide +kernel
theorem dX7_takesClient_24 : decode cX7_takesClient 24 = .ok (.aload_n 0, 1) := by decide +kernel
theorem dX7_takesClient_25 : decode cX7_takesClient 25 = .ok (.dup, 1) := by decide +kernel
theorem dX7_takesClient_26 : decode cX7_takesClient 26 = .ok (.getfield 79, 3) := by decide +kernel
theorem dX7_takesClient_29 : decode cX7_takesClient 29 = .ok (.iconst 1, 1) := by decide +kernel
theorem dX7_takesClient_30 : decode cX7_takesClient 30 = .ok (.iadd, 1) := by decide +kernel
theorem dX7_takesClient_31 : decode cX7_takesClient 31 = .ok (.putfield 79, 3) := by decide +kernel
theorem dX7_takesClient_34 : decode cX7_takesClient 34 = .ok (.aload_n 0, 1) := by decide +kernel
theorem dX7_takesClient_35 : decode cX7_takesClient 35 = .ok (.iconst 0, 1) := by decide +kernel
theorem dX7_takesClient_36 : decode cX7_takesClient 36 = .ok (.bipush 40, 2) := by decide +kernel
theorem dX7_takesClient_38 : decode cX7_takesClient 38 = .ok (.bipush 44, 2) := by decide +kernel
theorem dX7_takesClient_40 : decode cX7_takesClient 40 = .ok (.invokevirtual 99, 3) := by decide +kernel
theorem dX7_takesClient_43 : decode cX7_takesClient 43 = .ok (.ifCond .ne 5, 3) := by decide +kernel
theorem dX7_takesClient_46 : decode cX7_takesClient 46 = .ok (.iconst 0, 1) := by decide +kernel
theorem dX7_takesClient_47 : decode cX7_takesClient 47 = .ok (.ireturn, 1) := by decide +kernel
theorem dX7_takesClient_48 : decode cX7_takesClient 48 = .ok (.aload_n 0, 1) := by decide +kernel
theorem dX7_takesClient_49 : decode cX7_takesClient 49 = .ok (.getfield 7, 3) := by decide +kernel
theorem dX7_takesClient_52 : decode cX7_takesClient 52 = .ok (.bipush 109, 2) := by decide +kernel
theorem dX7_takesClient_54 : decode cX7_takesClient 54 = .ok (.iload_n 1, 1) := by decide +kernel
theorem dX7_takesClient_55 : decode cX7_takesClient 55 = .ok (.iadd, 1) := by decide +kernel
theorem dX7_takesClient_56 : decode cX7_takesClient 56 = .ok (.aload_n 0, 1) := by decide +kernel
theorem dX7_takesClient_57 : decode cX7_takesClient 57 = .ok (.getfield 89, 3) := by decide +kernel
theorem dX7_takesClient_60 : decode cX7_takesClient 60 = .ok (.iastore, 1) := by decide +kernel
theorem dX7_takesClient_61 : decode cX7_takesClient 61 = .ok (.aload_n 0, 1) := by decide +kernel
theorem dX7_takesClient_62 : decode cX7_takesClient 62 = .ok (.iconst 0, 1) := by decide +kernel
theorem dX7_takesClient_63 : decode cX7_takesClient 63 = .ok (.iconst 5, 1) := by decide +kernel
theorem dX7_takesClient_64 : decode cX7_takesClient 64 = .ok (.bipush 59, 2) := by decide +kernel
theorem dX7_takesClient_66 : decode cX7_takesClient 66 = .ok (.invokevirtual 99, 3) := by decide +kernel
theorem dX7_takesClient_69 : decode cX7_takesClient 69 = .ok (.ifCond .ne 5, 3) := by decide +kernel
theorem dX7_takesClient_72 : decode cX7_takesClient 72 = .ok (.iconst 0, 1) := by decide +kernel
theorem dX7_takesClient_73 : decode cX7_takesClient 73 = .ok (.ireturn, 1) := by decide +kernel
theorem dX7_takesClient_74 : decode cX7_takesClient 74 = .ok (.aload_n 0, 1) := by decide +kernel
theorem dX7_takesClient_75 : decode cX7_takesClient 75 = .ok (.getfield 7, 3) := by decide +kernel
theorem dX7_takesClient_78 : decode cX7_takesClient 78 = .ok (.sipush 131, 3) := by decide +kernel
theorem dX7_takesClient_81 : decode cX7_takesClient 81 = .ok (.iload_n 1, 1) := by decide +kernel
theorem dX7_takesClient_82 : decode cX7_takesClient 82 = .ok (.iadd, 1) := by decide +kernel
theorem dX7_takesClient_83 : decode cX7_takesClient 83 = .ok (.aload_n 0, 1) := by decide +kernel
theorem dX7_takesClient_84 : decode cX7_takesClient 84 = .ok (.getfield 89, 3) := by decide +kernel
theorem dX7_takesClient_87 : decode cX7_takesClient 87 = .ok (.iastore, 1) := by decide +kernel
theorem dX7_takesClient_88 : decode cX7_takesClient 88 = .ok (.aload_n 0, 1) := by decide +kernel
theorem dX7_takesClient_89 : decode cX7_takesClient 89 = .ok (.getfield 7, 3) := by decide +kernel
theorem dX7_takesClient_92 : decode cX7_takesClient 92 = .ok (.sipush 129, 3) := by decide +kernel
theorem dX7_takesClient_95 : decode cX7_takesClient 95 = .ok (.dup2, 1) := by decide +kernel
theorem dX7_takesClient_96 : decode cX7_takesClient 96 = .ok (.iaload, 1) := by decide +kernel
theorem dX7_takesClient_97 : decode cX7_takesClient 97 = .ok (.iconst 1, 1) := by decide +kernel
theorem dX7_takesClient_98 : decode cX7_takesClient 98 = .ok (.iadd, 1) := by decide +kernel
theorem dX7_takesClient_99 : decode cX7_takesClient 99 = .ok (.iastore, 1) := by decide +kernel
theorem dX7_takesClient_100 : decode cX7_takesClient 100 = .ok (.iconst 1, 1) := by decide +kernel
theorem dX7_takesClient_101 : decode cX7_takesClient 101 = .ok (.ireturn, 1) := by decide +kernel
theorem dX7_kindOf_0 : decode cX7_kindOf 0 = .ok (.iload_n 0, 1) := by decide +kernel
theorem dX7_kindOf_1 : decode cX7_kindOf 1 = .ok (.bipush 111, 2) := by decide +kernel
theorem dX7_kindOf_3 : decode cX7_kindOf 3 = .ok (.if_icmp .ne 7, 3) := by decide +kernel
theorem dX7_kindOf_6 : decode cX7_kindOf 6 = .ok (.iconst 1, 1) := by decide +kernel
theorem dX7_kindOf_7 : decode cX7_kindOf 7 = .ok (.goto 44, 3) := by decide +kernel
theorem dX7_kindOf_10 : decode cX7_kindOf 10 = .ok (.iload_n 0, 1) := by decide +kernel
theorem dX7_kindOf_11 : decode cX7_kindOf 11 = .ok (.bipush 99, 2) := by decide +kernel
theorem dX7_kindOf_13 : decode cX7_kindOf 13 = .ok (.if_icmp .ne 7, 3) := by decide +kernel
theorem dX7_kindOf_16 : decode cX7_kindOf 16 = .ok (.iconst 2, 1) := by decide +kernel
theorem dX7_kindOf_17 : decode cX7_kindOf 17 = .ok (.goto 34, 3) := by decide +kernel
theorem dX7_kindOf_20 : decode cX7_kindOf 20 = .ok (.iload_n 0, 1) := by decide +kernel
theorem dX7_kindOf_21 : decode cX7_kindOf 21 = .ok (.bipush 109, 2) := by decide +kernel
theorem dX7_kindOf_23 : decode cX7_kindOf 23 = .ok (.if_icmp .ne 7, 3) := by decide +kernel
theorem dX7_kindOf_26 : decode cX7_kindOf 26 = .ok (.iconst 3, 1) := by decide +kernel
theorem dX7_kindOf_27 : decode cX7_kindOf 27 = .ok (.goto 24, 3) := by decide +kernel
theorem dX7_kindOf_30 : decode cX7_kindOf 30 = .ok (.iload_n 0, 1) := by decide +kernel
theorem dX7_kindOf_31 : decode cX7_kindOf 31 = .ok (.bipush 103, 2) := by decide +kernel
theorem dX7_kindOf_33 : decode cX7_kindOf 33 = .ok (.if_icmp .ne 7, 3) := by decide +kernel
theorem dX7_kindOf_36 : decode cX7_kindOf 36 = .ok (.iconst 4, 1) := by decide +kernel
theorem dX7_kindOf_37 : decode cX7_kindOf 37 = .ok (.goto 14, 3) := by decide +kernel
theorem dX7_kindOf_40 : decode cX7_kindOf 40 = .ok (.iload_n 0, 1) := by decide +kernel
theorem dX7_kindOf_41 : decode cX7_kindOf 41 = .ok (.bipush 110, 2) := by decide +kernel
theorem dX7_kindOf_43 : decode cX7_kindOf 43 = .ok (.if_icmp .ne 7, 3) := by decide +kernel
theorem dX7_kindOf_46 : decode cX7_kindOf 46 = .ok (.iconst 5, 1) := by decide +kernel
theorem dX7_kindOf_47 : decode cX7_kindOf 47 = .ok (.goto 4, 3) := by decide +kernel
theorem dX7_kindOf_50 : decode cX7_kindOf 50 = .ok (.iconst 0, 1) := by decide +kernel
theorem dX7_kindOf_51 : decode cX7_kindOf 51 = .ok (.ireturn, 1) := by decide +kernel
theorem dX7_takesWaker_0 : decode cX7_takesWaker 0 = .ok (.aload_n 0, 1) := by decide +kernel
theorem dX7_takesWaker_1 : decode cX7_takesWaker 1 = .ok (.getfield 7, 3) := by decide +kernel
theorem dX7_takesWaker_4 : decode cX7_takesWaker 4 = .ok (.sipush 130, 3) := by decide +kernel
theorem dX7_takesWaker_7 : decode cX7_takesWaker 7 = .ok (.iaload, 1) := by decide +kernel
theorem dX7_takesWaker_8 : decode cX7_takesWaker 8 = .ok (.istore_n 2, 1) := by decide +kernel
theorem dX7_takesWaker_9 : decode cX7_takesWaker 9 = .ok (.iload_n 2, 1) := by decide +kernel
theorem dX7_takesWaker_10 : decode cX7_takesWaker 10 = .ok (.iconst 4, 1) := by decide +kernel
theorem dX7_takesWaker_11 : decode cX7_takesWaker 11 = .ok (.if_icmp .ne 13, 3) := by decide +kernel
theorem dX7_takesWaker_14 : decode cX7_takesWaker 14 = .ok (.aload_n 0, 1) := by decide +kernel
theorem dX7_takesWaker_15 : decode cX7_takesWaker 15 = .ok (.iconst 3, 1) := by decide +kernel
theorem dX7_takesWaker_16 : decode cX7_takesWaker 16 = .ok (.aload_n 0, 1) := by decide +kernel
theorem dX7_takesWaker_17 : decode cX7_takesWaker 17 = .ok (.getfield 79, 3) := by decide +kernel
theorem dX7_takesWaker_20 : decode cX7_takesWaker 20 = .ok (.invokevirtual 85, 3) := by decide +kernel
theorem dX7_takesWaker_23 : decode cX7_takesWaker 23 = .ok (.ireturn, 1) := by decide +kernel
theorem dX7_takesWaker_24 : decode cX7_takesWaker 24 = .ok (.aload_n 0, 1) := by decide +kernel
theorem dX7_takesWaker_25 : decode cX7_takesWaker 25 = .ok (.dup, 1) := by decide +kernel
theorem dX7_takesWaker_26 : decode cX7_takesWaker 26 = .ok (.getfield 79, 3) := by decide +kernel
theorem dX7_takesWaker_29 : decode cX7_takesWaker 29 = .ok (.iconst 1, 1) := by decide +kernel
theorem dX7_takesWaker_30 : decode cX7_takesWaker 30 = .ok (.iadd, 1) := by decide +kernel
theorem dX7_takesWaker_31 : decode cX7_takesWaker 31 = .ok (.putfield 79, 3) := by decide +kernel
theorem dX7_takesWaker_34 : decode cX7_takesWaker 34 = .ok (.aload_n 0, 1) := by decide +kernel
theorem dX7_takesWaker_35 : decode cX7_takesWaker 35 = .ok (.getfield 7, 3) := by decide +kernel
theorem dX7_takesWaker_38 : decode cX7_takesWaker 38 = .ok (.sipush 136, 3) := by decide +kernel
theorem dX7_takesWaker_41 : decode cX7_takesWaker 41 = .ok (.iload_n 2, 1) := by decide +kernel
theorem dX7_takesWaker_42 : decode cX7_takesWaker 42 = .ok (.iadd, 1) := by decide +kernel
theorem dX7_takesWaker_43 : decode cX7_takesWaker 43 = .ok (.iload_n 1, 1) := by decide +kernel
theorem dX7_takesWaker_44 : decode cX7_takesWaker 44 = .ok (.iastore, 1) := by decide +kernel
theorem dX7_takesWaker_45 : decode cX7_takesWaker 45 = .ok (.aload_n 0, 1) := by decide +kernel
theorem dX7_takesWaker_46 : decode cX7_takesWaker 46 = .ok (.iconst 0, 1) := by decide +kernel
theorem dX7_takesWaker_47 : decode cX7_takesWaker 47 = .ok (.bipush 9, 2) := by decide +kernel
theorem dX7_takesWaker_49 : decode cX7_takesWaker 49 = .ok (.bipush 44, 2) := by decide +kernel
theorem dX7_takesWaker_51 : decode cX7_takesWaker 51 = .ok (.invokevirtual 99, 3) := by decide +kernel
theorem dX7_takesWaker_54 : decode cX7_takesWaker 54 = .ok (.ifCond .ne 5, 3) := by decide +kernel
theorem dX7_takesWaker_57 : decode cX7_takesWaker 57 = .ok (.iconst 0, 1) := by decide +kernel
theorem dX7_takesWaker_58 : decode cX7_takesWaker 58 = .ok (.ireturn, 1) := by decide +kernel
theorem dX7_takesWaker_59 : decode cX7_takesWaker 59 = .ok (.aload_n 0, 1) := by decide +kernel
theorem dX7_takesWaker_60 : decode cX7_takesWaker 60 = .ok (.getfield 7, 3) := by decide +kernel
theorem dX7_takesWaker_63 : decode cX7_takesWaker 63 = .ok (.sipush 140, 3) := by decide +kernel
theorem dX7_takesWaker_66 : decode cX7_takesWaker 66 = .ok (.iload_n 2, 1) := by decide +kernel
theorem dX7_takesWaker_67 : decode cX7_takesWaker 67 = .ok (.iadd, 1) := by decide +kernel
theorem dX7_takesWaker_68 : decode cX7_takesWaker 68 = .ok (.aload_n 0, 1) := by decide +kernel
theorem dX7_takesWaker_69 : decode cX7_takesWaker 69 = .ok (.getfield 89, 3) := by decide +kernel
theorem dX7_takesWaker_72 : decode cX7_takesWaker 72 = .ok (.iastore, 1) := by decide +kernel
theorem dX7_takesWaker_73 : decode cX7_takesWaker 73 = .ok (.aload_n 0, 1) := by decide +kernel
theorem dX7_takesWaker_74 : decode cX7_takesWaker 74 = .ok (.iconst 0, 1) := by decide +kernel
theorem dX7_takesWaker_75 : decode cX7_takesWaker 75 = .ok (.iconst 5, 1) := by decide +kernel
theorem dX7_takesWaker_76 : decode cX7_takesWaker 76 = .ok (.bipush 44, 2) := by decide +kernel
theorem dX7_takesWaker_78 : decode cX7_takesWaker 78 = .ok (.invokevirtual 99, 3) := by decide +kernel
theorem dX7_takesWaker_81 : decode cX7_takesWaker 81 = .ok (.ifCond .ne 5, 3) := by decide +kernel
theorem dX7_takesWaker_84 : decode cX7_takesWaker 84 = .ok (.iconst 0, 1) := by decide +kernel
theorem dX7_takesWaker_85 : decode cX7_takesWaker 85 = .ok (.ireturn, 1) := by decide +kernel
theorem dX7_takesWaker_86 : decode cX7_takesWaker 86 = .ok (.aload_n 0, 1) := by decide +kernel
theorem dX7_takesWaker_87 : decode cX7_takesWaker 87 = .ok (.getfield 7, 3) := by decide +kernel
theorem dX7_takesWaker_90 : decode cX7_takesWaker 90 = .ok (.bipush 114, 2) := by decide +kernel
theorem dX7_takesWaker_92 : decode cX7_takesWaker 92 = .ok (.iload_n 2, 1) := by decide +kernel
theorem dX7_takesWaker_93 : decode cX7_takesWaker 93 = .ok (.iadd, 1) := by decide +kernel
theorem dX7_takesWaker_94 : decode cX7_takesWaker 94 = .ok (.aload_n 0, 1) := by decide +kernel
theorem dX7_takesWaker_95 : decode cX7_takesWaker 95 = .ok (.getfield 89, 3) := by decide +kernel
theorem dX7_takesWaker_98 : decode cX7_takesWaker 98 = .ok (.iastore, 1) := by decide +kernel
theorem dX7_takesWaker_99 : decode cX7_takesWaker 99 = .ok (.aload_n 0, 1) := by decide +kernel
theorem dX7_takesWaker_100 : decode cX7_takesWaker 100 = .ok (.getfield 79, 3) := by decide +kernel
theorem dX7_takesWaker_103 : decode cX7_takesWaker 103 = .ok (.istore_n 3, 1) := by decide +kernel
theorem dX7_takesWaker_104 : decode cX7_takesWaker 104 = .ok (.iconst 0, 1) := by decide +kernel
theorem dX7_takesWaker_105 : decode cX7_takesWaker 105 = .ok (.istore 4, 2) := by decide +kernel
theorem dX7_takesWaker_107 : decode cX7_takesWaker 107 = .ok (.iconst 0, 1) := by decide +kernel
theorem dX7_takesWaker_108 : decode cX7_takesWaker 108 = .ok (.istore 5, 2) := by decide +kernel
theorem dX7_takesWaker_110 : decode cX7_takesWaker 110 = .ok (.aload_n 0, 1) := by decide +kernel
theorem dX7_takesWaker_111 : decode cX7_takesWaker 111 = .ok (.iload_n 3, 1) := by decide +kernel
theorem dX7_takesWaker_112 : decode cX7_takesWaker 112 = .ok (.iload 4, 2) := by decide +kernel
theorem dX7_takesWaker_114 : decode cX7_takesWaker 114 = .ok (.iadd, 1) := by decide +kernel
theorem dX7_takesWaker_115 : decode cX7_takesWaker 115 = .ok (.invokevirtual 82, 3) := by decide +kernel
theorem dX7_takesWaker_118 : decode cX7_takesWaker 118 = .ok (.i2l, 1) := by decide +kernel
theorem dX7_takesWaker_119 : decode cX7_takesWaker 119 = .ok (.ldc2_w 92, 3) := by decide +kernel
theorem dX7_takesWaker_122 : decode cX7_takesWaker 122 = .ok (.ldc2_w 94, 3) := by decide +kernel
theorem dX7_takesWaker_125 : decode cX7_takesWaker 125 = .ok (.invokestatic 45, 3) := by decide +kernel
theorem dX7_takesWaker_128 : decode cX7_takesWaker 128 = .ok (.ifCond .eq 34, 3) := by decide +kernel
theorem dX7_takesWaker_131 : decode cX7_takesWaker 131 = .ok (.iload 4, 2) := by decide +kernel
theorem dX7_takesWaker_133 : decode cX7_takesWaker 133 = .ok (.iconst 3, 1) := by decide +kernel
theorem dX7_takesWaker_134 : decode cX7_takesWaker 134 = .ok (.if_icmp .ge 28, 3) := by decide +kernel
theorem dX7_takesWaker_137 : decode cX7_takesWaker 137 = .ok (.bipush 10, 2) := by decide +kernel
theorem dX7_takesWaker_139 : decode cX7_takesWaker 139 = .ok (.iload 5, 2) := by decide +kernel
theorem dX7_takesWaker_141 : decode cX7_takesWaker 141 = .ok (.imul, 1) := by decide +kernel
theorem dX7_takesWaker_142 : decode cX7_takesWaker 142 = .ok (.aload_n 0, 1) := by decide +kernel
theorem dX7_takesWaker_143 : decode cX7_takesWaker 143 = .ok (.iload_n 3, 1) := by decide +kernel
theorem dX7_takesWaker_144 : decode cX7_takesWaker 144 = .ok (.iload 4, 2) := by decide +kernel
theorem dX7_takesWaker_146 : decode cX7_takesWaker 146 = .ok (.iadd, 1) := by decide +kernel
theorem dX7_takesWaker_147 : decode cX7_takesWaker 147 = .ok (.invokevirtual 82, 3) := by decide +kernel
theorem dX7_takesWaker_150 : decode cX7_takesWaker 150 = .ok (.iadd, 1) := by decide +kernel
theorem dX7_takesWaker_151 : decode cX7_takesWaker 151 = .ok (.bipush 48, 2) := by decide +kernel
theorem dX7_takesWaker_153 : decode cX7_takesWaker 153 = .ok (.isub, 1) := by decide +kernel
theorem dX7_takesWaker_154 : decode cX7_takesWaker 154 = .ok (.istore 5, 2) := by decide +kernel
theorem dX7_takesWaker_156 : decode cX7_takesWaker 156 = .ok (.iinc 4 1, 3) := by decide +kernel
theorem dX7_takesWaker_159 : decode cX7_takesWaker 159 = .ok (.goto (-49), 3) := by decide +kernel
theorem dX7_takesWaker_162 : decode cX7_takesWaker 162 = .ok (.iload 4, 2) := by decide +kernel
theorem dX7_takesWaker_164 : decode cX7_takesWaker 164 = .ok (.ifCond .le 35, 3) := by decide +kernel
theorem dX7_takesWaker_167 : decode cX7_takesWaker 167 = .ok (.iload 4, 2) := by decide +kernel
theorem dX7_takesWaker_169 : decode cX7_takesWaker 169 = .ok (.iconst 3, 1) := by decide +kernel
theorem dX7_takesWaker_170 : decode cX7_takesWaker 170 = .ok (.if_icmp .ge 29, 3) := by decide +kernel
theorem dX7_takesWaker_173 : decode cX7_takesWaker 173 = .ok (.iload 5, 2) := by decide +kernel
theorem dX7_takesWaker_175 : decode cX7_takesWaker 175 = .ok (.iconst 5, 1) := by decide +kernel
theorem dX7_takesWaker_176 : decode cX7_takesWaker 176 = .ok (.if_icmp .eq 23, 3) := by decide +kernel
theorem dX7_takesWaker_179 : decode cX7_takesWaker 179 = .ok (.iload 5, 2) := by decide +kernel
theorem dX7_takesWaker_181 : decode cX7_takesWaker 181 = .ok (.aload_n 0, 1) := by decide +kernel
theorem dX7_takesWaker_182 : decode cX7_takesWaker 182 = .ok (.getfield 7, 3) := by decide +kernel
theorem dX7_takesWaker_185 : decode cX7_takesWaker 185 = .ok (.sipush 129, 3) := by decide +kernel
theorem dX7_takesWaker_188 : decode cX7_takesWaker 188 = .ok (.iaload, 1) := by decide +kernel
theorem dX7_takesWaker_189 : decode cX7_takesWaker 189 = .ok (.if_icmp .lt 10, 3) := by decide +kernel
theorem dX7_takesWaker_192 : decode cX7_takesWaker 192 = .ok (.aload_n 0, 1) := by decide +kernel
theorem dX7_takesWaker_193 : decode cX7_takesWaker 193 = .ok (.iconst 2, 1) := by decide +kernel
theorem dX7_takesWaker_194 : decode cX7_takesWaker 194 = .ok (.iload_n 3, 1) := by decide +kernel
theorem dX7_takesWaker_195 : decode cX7_takesWaker 195 = .ok (.invokevirtual 85, 3) := by decide +kernel
theorem dX7_takesWaker_198 : decode cX7_takesWaker 198 = .ok (.ireturn, 1) := by decide +kernel
theorem dX7_takesWaker_199 : decode cX7_takesWaker 199 = .ok (.aload_n 0, 1) := by decide +kernel
theorem dX7_takesWaker_200 : decode cX7_takesWaker 200 = .ok (.iconst 0, 1) := by decide +kernel
theorem dX7_takesWaker_201 : decode cX7_takesWaker 201 = .ok (.iconst 5, 1) := by decide +kernel
theorem dX7_takesWaker_202 : decode cX7_takesWaker 202 = .ok (.bipush 59, 2) := by decide +kernel
theorem dX7_takesWaker_204 : decode cX7_takesWaker 204 = .ok (.invokevirtual 99, 3) := by decide +kernel
theorem dX7_takesWaker_207 : decode cX7_takesWaker 207 = .ok (.ifCond .ne 5, 3) := by decide +kernel
theorem dX7_takesWaker_210 : decode cX7_takesWaker 210 = .ok (.iconst 0, 1) := by decide +kernel
theorem dX7_takesWaker_211 : decode cX7_takesWaker 211 = .ok (.ireturn, 1) := by decide +kernel
theorem dX7_takesWaker_212 : decode cX7_takesWaker 212 = .ok (.aload_n 0, 1) := by decide +kernel
theorem dX7_takesWaker_213 : decode cX7_takesWaker 213 = .ok (.getfield 7, 3) := by decide +kernel
theorem dX7_takesWaker_216 : decode cX7_takesWaker 216 = .ok (.bipush 118, 2) := by decide +kernel
theorem dX7_takesWaker_218 : decode cX7_takesWaker 218 = .ok (.iload_n 2, 1) := by decide +kernel
theorem dX7_takesWaker_219 : decode cX7_takesWaker 219 = .ok (.iadd, 1) := by decide +kernel
theorem dX7_takesWaker_220 : decode cX7_takesWaker 220 = .ok (.aload_n 0, 1) := by decide +kernel
theorem dX7_takesWaker_221 : decode cX7_takesWaker 221 = .ok (.getfield 89, 3) := by decide +kernel
theorem dX7_takesWaker_224 : decode cX7_takesWaker 224 = .ok (.iastore, 1) := by decide +kernel
theorem dX7_takesWaker_225 : decode cX7_takesWaker 225 = .ok (.aload_n 0, 1) := by decide +kernel
theorem dX7_takesWaker_226 : decode cX7_takesWaker 226 = .ok (.getfield 7, 3) := by decide +kernel
theorem dX7_takesWaker_229 : decode cX7_takesWaker 229 = .ok (.sipush 130, 3) := by decide +kernel
theorem dX7_takesWaker_232 : decode cX7_takesWaker 232 = .ok (.dup2, 1) := by decide +kernel
theorem dX7_takesWaker_233 : decode cX7_takesWaker 233 = .ok (.iaload, 1) := by decide +kernel
theorem dX7_takesWaker_234 : decode cX7_takesWaker 234 = .ok (.iconst 1, 1) := by decide +kernel
theorem dX7_takesWaker_235 : decode cX7_takesWaker 235 = .ok (.iadd, 1) := by decide +kernel
theorem dX7_takesWaker_236 : decode cX7_takesWaker 236 = .ok (.iastore, 1) := by decide +kernel
theorem dX7_takesWaker_237 : decode cX7_takesWaker 237 = .ok (.iconst 1, 1) := by decide +kernel
theorem dX7_takesWaker_238 : decode cX7_takesWaker 238 = .ok (.ireturn, 1) := by decide +kernel
theorem dX7_takesMore_0 : decode cX7_takesMore 0 = .ok (.aload_n 0, 1) := by decide +kernel
theorem dX7_takesMore_1 : decode cX7_takesMore 1 = .ok (.aload_n 0, 1) := by decide +kernel
theorem dX7_takesMore_2 : decode cX7_takesMore 2 = .ok (.getfield 79, 3) := by decide +kernel
theorem dX7_takesMore_5 : decode cX7_takesMore 5 = .ok (.invokevirtual 82, 3) := by decide +kernel
theorem dX7_takesMore_8 : decode cX7_takesMore 8 = .ok (.istore_n 1, 1) := by decide +kernel
theorem dX7_takesMore_9 : decode cX7_takesMore 9 = .ok (.iload_n 1, 1) := by decide +kernel
theorem dX7_takesMore_10 : decode cX7_takesMore 10 = .ok (.bipush 119, 2) := by decide +kernel
theorem dX7_takesMore_12 : decode cX7_takesMore 12 = .ok (.if_icmp .ne 18, 3) := by decide +kernel
theorem dX7_takesMore_15 : decode cX7_takesMore 15 = .ok (.aload_n 0, 1) := by decide +kernel
theorem dX7_takesMore_16 : decode cX7_takesMore 16 = .ok (.getfield 7, 3) := by decide +kernel
theorem dX7_takesMore_19 : decode cX7_takesMore 19 = .ok (.sipush 130, 3) := by decide +kernel
theorem dX7_takesMore_22 : decode cX7_takesMore 22 = .ok (.iaload, 1) := by decide +kernel
theorem dX7_takesMore_23 : decode cX7_takesMore 23 = .ok (.ifCond .ne 7, 3) := by decide +kernel
theorem dX7_takesMore_26 : decode cX7_takesMore 26 = .ok (.iconst 1, 1) := by decide +kernel
theorem dX7_takesMore_27 : decode cX7_takesMore 27 = .ok (.goto 4, 3) := by decide +kernel
theorem dX7_takesMore_30 : decode cX7_takesMore 30 = .ok (.iconst 0, 1) := by decide +kernel
theorem dX7_takesMore_31 : decode cX7_takesMore 31 = .ok (.istore_n 2, 1) := by decide +kernel
theorem dX7_takesMore_32 : decode cX7_takesMore 32 = .ok (.iload_n 2, 1) := by decide +kernel
theorem dX7_takesMore_33 : decode cX7_takesMore 33 = .ok (.ifCond .ne 31, 3) := by decide +kernel
theorem dX7_takesMore_36 : decode cX7_takesMore 36 = .ok (.iload_n 1, 1) := by decide +kernel
theorem dX7_takesMore_37 : decode cX7_takesMore 37 = .ok (.invokestatic 102, 3) := by decide +kernel
theorem dX7_takesMore_40 : decode cX7_takesMore 40 = .ok (.ifCond .eq 14, 3) := by decide +kernel
theorem dX7_takesMore_43 : decode cX7_takesMore 43 = .ok (.aload_n 0, 1) := by decide +kernel
theorem dX7_takesMore_44 : decode cX7_takesMore 44 = .ok (.getfield 7, 3) := by decide +kernel
theorem dX7_takesMore_47 : decode cX7_takesMore 47 = .ok (.sipush 129, 3) := by decide +kernel
theorem dX7_takesMore_50 : decode cX7_takesMore 50 = .ok (.iaload, 1) := by decide +kernel
theorem dX7_takesMore_51 : decode cX7_takesMore 51 = .ok (.ifCond .ne 13, 3) := by decide +kernel
theorem dX7_takesMore_54 : decode cX7_takesMore 54 = .ok (.aload_n 0, 1) := by decide +kernel
theorem dX7_takesMore_55 : decode cX7_takesMore 55 = .ok (.iconst 1, 1) := by decide +kernel
theorem dX7_takesMore_56 : decode cX7_takesMore 56 = .ok (.aload_n 0, 1) := by decide +kernel
theorem dX7_takesMore_57 : decode cX7_takesMore 57 = .ok (.getfield 79, 3) := by decide +kernel
theorem dX7_takesMore_60 : decode cX7_takesMore 60 = .ok (.invokevirtual 85, 3) := by decide +kernel
theorem dX7_takesMore_63 : decode cX7_takesMore 63 = .ok (.ireturn, 1) := by decide +kernel
theorem dX7_takesMore_64 : decode cX7_takesMore 64 = .ok (.iload_n 2, 1) := by decide +kernel
theorem dX7_takesMore_65 : decode cX7_takesMore 65 = .ok (.ifCond .eq 10, 3) := by decide +kernel
theorem dX7_takesMore_68 : decode cX7_takesMore 68 = .ok (.aload_n 0, 1) := by decide +kernel
theorem dX7_takesMore_69 : decode cX7_takesMore 69 = .ok (.invokevirtual 105, 3) := by decide +kernel
theorem dX7_takesMore_72 : decode cX7_takesMore 72 = .ok (.goto 11, 3) := by decide +kernel
theorem dX7_takesMore_75 : decode cX7_takesMore 75 = .ok (.aload_n 0, 1) := by decide +kernel
theorem dX7_takesMore_76 : decode cX7_takesMore 76 = .ok (.iload_n 1, 1) := by decide +kernel
theorem dX7_takesMore_77 : decode cX7_takesMore 77 = .ok (.invokestatic 102, 3) := by decide +kernel
theorem dX7_takesMore_80 : decode cX7_takesMore 80 = .ok (.invokevirtual 109, 3) := by decide +kernel
theorem dX7_takesMore_83 : decode cX7_takesMore 83 = .ok (.ireturn, 1) := by decide +kernel
theorem dX7_copyAll_0 : decode cX7_copyAll 0 = .ok (.iconst 0, 1) := by decide +kernel
theorem dX7_copyAll_1 : decode cX7_copyAll 1 = .ok (.istore_n 3, 1) := by decide +kernel
theorem dX7_copyAll_2 : decode cX7_copyAll 2 = .ok (.iload_n 3, 1) := by decide +kernel
theorem dX7_copyAll_3 : decode cX7_copyAll 3 = .ok (.bipush 36, 2) := by decide +kernel
theorem dX7_copyAll_5 : decode cX7_copyAll 5 = .ok (.if_icmp .ge 25, 3) := by decide +kernel
theorem dX7_copyAll_8 : decode cX7_copyAll 8 = .ok (.aload_n 0, 1) := by decide +kernel
theorem dX7_copyAll_9 : decode cX7_copyAll 9 = .ok (.getfield 7, 3) := by decide +kernel
theorem dX7_copyAll_12 : decode cX7_copyAll 12 = .ok (.iload_n 2, 1) := by decide +kernel
theorem dX7_copyAll_13 : decode cX7_copyAll 13 = .ok (.iload_n 3, 1) := by decide +kernel
theorem dX7_copyAll_14 : decode cX7_copyAll 14 = .ok (.iadd, 1) := by decide +kernel
theorem dX7_copyAll_15 : decode cX7_copyAll 15 = .ok (.aload_n 0, 1) := by decide +kernel
theorem dX7_copyAll_16 : decode cX7_copyAll 16 = .ok (.getfield 7, 3) := by decide +kernel
theorem dX7_copyAll_19 : decode cX7_copyAll 19 = .ok (.iload_n 1, 1) := by decide +kernel
theorem dX7_copyAll_20 : decode cX7_copyAll 20 = .ok (.iload_n 3, 1) := by decide +kernel
theorem dX7_copyAll_21 : decode cX7_copyAll 21 = .ok (.iadd, 1) := by decide +kernel
theorem dX7_copyAll_22 : decode cX7_copyAll 22 = .ok (.iaload, 1) := by decide +kernel
theorem dX7_copyAll_23 : decode cX7_copyAll 23 = .ok (.iastore, 1) := by decide +kernel
theorem dX7_copyAll_24 : decode cX7_copyAll 24 = .ok (.iinc 3 1, 3) := by decide +kernel
theorem dX7_copyAll_27 : decode cX7_copyAll 27 = .ok (.goto (-25), 3) := by decide +kernel
theorem dX7_copyAll_30 : decode cX7_copyAll 30 = .ok (.return_, 1) := by decide +kernel
theorem dX7_agency_0 : decode cX7_agency 0 = .ok (.aload_n 0, 1) := by decide +kernel
theorem dX7_agency_1 : decode cX7_agency 1 = .ok (.iconst 0, 1) := by decide +kernel
theorem dX7_agency_2 : decode cX7_agency 2 = .ok (.putfield 79, 3) := by decide +kernel
theorem dX7_agency_5 : decode cX7_agency 5 = .ok (.aload_n 0, 1) := by decide +kernel
theorem dX7_agency_6 : decode cX7_agency 6 = .ok (.invokevirtual 112, 3) := by decide +kernel
theorem dX7_agency_9 : decode cX7_agency 9 = .ok (.istore_n 1, 1) := by decide +kernel
theorem dX7_agency_10 : decode cX7_agency 10 = .ok (.iload_n 1, 1) := by decide +kernel
theorem dX7_agency_11 : decode cX7_agency 11 = .ok (.ifCond .eq 33, 3) := by decide +kernel
theorem dX7_agency_14 : decode cX7_agency 14 = .ok (.aload_n 0, 1) := by decide +kernel
theorem dX7_agency_15 : decode cX7_agency 15 = .ok (.getfield 79, 3) := by decide +kernel
theorem dX7_agency_18 : decode cX7_agency 18 = .ok (.aload_n 0, 1) := by decide +kernel
theorem dX7_agency_19 : decode cX7_agency 19 = .ok (.getfield 69, 3) := by decide +kernel
theorem dX7_agency_22 : decode cX7_agency 22 = .ok (.if_icmp .lt 14, 3) := by decide +kernel
theorem dX7_agency_25 : decode cX7_agency 25 = .ok (.aload_n 0, 1) := by decide +kernel
theorem dX7_agency_26 : decode cX7_agency 26 = .ok (.getfield 7, 3) := by decide +kernel
theorem dX7_agency_29 : decode cX7_agency 29 = .ok (.sipush 129, 3) := by decide +kernel
theorem dX7_agency_32 : decode cX7_agency 32 = .ok (.iaload, 1) := by decide +kernel
theorem dX7_agency_33 : decode cX7_agency 33 = .ok (.ifCond .ne 11, 3) := by decide +kernel
theorem dX7_agency_36 : decode cX7_agency 36 = .ok (.aload_n 0, 1) := by decide +kernel
theorem dX7_agency_37 : decode cX7_agency 37 = .ok (.invokevirtual 115, 3) := by decide +kernel
theorem dX7_agency_40 : decode cX7_agency 40 = .ok (.istore_n 1, 1) := by decide +kernel
theorem dX7_agency_41 : decode cX7_agency 41 = .ok (.goto (-31), 3) := by decide +kernel
theorem dX7_agency_44 : decode cX7_agency 44 = .ok (.aload_n 0, 1) := by decide +kernel
theorem dX7_agency_45 : decode cX7_agency 45 = .ok (.iconst 0, 1) := by decide +kernel
theorem dX7_agency_46 : decode cX7_agency 46 = .ok (.putfield 69, 3) := by decide +kernel
theorem dX7_agency_49 : decode cX7_agency 49 = .ok (.iload_n 1, 1) := by decide +kernel
theorem dX7_agency_50 : decode cX7_agency 50 = .ok (.ifCond .ne 11, 3) := by decide +kernel
theorem dX7_agency_53 : decode cX7_agency 53 = .ok (.ldc 118, 2) := by decide +kernel
theorem dX7_agency_55 : decode cX7_agency 55 = .ok (.aload_n 0, 1) := by decide +kernel
theorem dX7_agency_56 : decode cX7_agency 56 = .ok (.getfield 76, 3) := by decide +kernel
theorem dX7_agency_59 : decode cX7_agency 59 = .ok (.isub, 1) := by decide +kernel
theorem dX7_agency_60 : decode cX7_agency 60 = .ok (.ireturn, 1) := by decide +kernel
theorem dX7_agency_61 : decode cX7_agency 61 = .ok (.aload_n 0, 1) := by decide +kernel
theorem dX7_agency_62 : decode cX7_agency 62 = .ok (.bipush 108, 2) := by decide +kernel
theorem dX7_agency_64 : decode cX7_agency 64 = .ok (.iconst 0, 1) := by decide +kernel
theorem dX7_agency_65 : decode cX7_agency 65 = .ok (.invokevirtual 119, 3) := by decide +kernel
theorem dX7_agency_68 : decode cX7_agency 68 = .ok (.aload_n 0, 1) := by decide +kernel
theorem dX7_agency_69 : decode cX7_agency 69 = .ok (.iconst 0, 1) := by decide +kernel
theorem dX7_agency_70 : decode cX7_agency 70 = .ok (.putfield 123, 3) := by decide +kernel
theorem dX7_agency_73 : decode cX7_agency 73 = .ok (.aload_n 0, 1) := by decide +kernel
theorem dX7_agency_74 : decode cX7_agency 74 = .ok (.getfield 7, 3) := by decide +kernel
theorem dX7_agency_77 : decode cX7_agency 77 = .ok (.bipush 21, 2) := by decide +kernel
theorem dX7_agency_79 : decode cX7_agency 79 = .ok (.iaload, 1) := by decide +kernel
theorem dX7_agency_80 : decode cX7_agency 80 = .ok (.ireturn, 1) := by decide +kernel
theorem dX7_fault_0 : decode cX7_fault 0 = .ok (.aload_n 0, 1) := by decide +kernel
theorem dX7_fault_1 : decode cX7_fault 1 = .ok (.getfield 73, 3) := by decide +kernel
theorem dX7_fault_4 : decode cX7_fault 4 = .ok (.ireturn, 1) := by decide +kernel
theorem dX7_isAgency_0 : decode cX7_isAgency 0 = .ok (.aload_n 0, 1) := by decide +kernel
theorem dX7_isAgency_1 : decode cX7_isAgency 1 = .ok (.getfield 7, 3) := by decide +kernel
theorem dX7_isAgency_4 : decode cX7_isAgency 4 = .ok (.bipush 18, 2) := by decide +kernel
theorem dX7_isAgency_6 : decode cX7_isAgency 6 = .ok (.iaload, 1) := by decide +kernel
theorem dX7_isAgency_7 : decode cX7_isAgency 7 = .ok (.iconst 1, 1) := by decide +kernel
theorem dX7_isAgency_8 : decode cX7_isAgency 8 = .ok (.if_icmp .ne 7, 3) := by decide +kernel
theorem dX7_isAgency_11 : decode cX7_isAgency 11 = .ok (.iconst 1, 1) := by decide +kernel
theorem dX7_isAgency_12 : decode cX7_isAgency 12 = .ok (.goto 4, 3) := by decide +kernel
theorem dX7_isAgency_15 : decode cX7_isAgency 15 = .ok (.iconst 0, 1) := by decide +kernel
theorem dX7_isAgency_16 : decode cX7_isAgency 16 = .ok (.ireturn, 1) := by decide +kernel
theorem dX7_isClient_0 : decode cX7_isClient 0 = .ok (.iload_n 1, 1) := by decide +kernel
theorem dX7_isClient_1 : decode cX7_isClient 1 = .ok (.i2l, 1) := by decide +kernel
theorem dX7_isClient_2 : decode cX7_isClient 2 = .ok (.lconst 0, 1) := by decide +kernel
theorem dX7_isClient_3 : decode cX7_isClient 3 = .ok (.aload_n 0, 1) := by decide +kernel
theorem dX7_isClient_4 : decode cX7_isClient 4 = .ok (.getfield 7, 3) := by decide +kernel
theorem dX7_isClient_7 : decode cX7_isClient 7 = .ok (.bipush 21, 2) := by decide +kernel
theorem dX7_isClient_9 : decode cX7_isClient 9 = .ok (.iaload, 1) := by decide +kernel
theorem dX7_isClient_10 : decode cX7_isClient 10 = .ok (.iconst 1, 1) := by decide +kernel
theorem dX7_isClient_11 : decode cX7_isClient 11 = .ok (.isub, 1) := by decide +kernel
theorem dX7_isClient_12 : decode cX7_isClient 12 = .ok (.i2l, 1) := by decide +kernel
theorem dX7_isClient_13 : decode cX7_isClient 13 = .ok (.invokestatic 45, 3) := by decide +kernel
theorem dX7_isClient_16 : decode cX7_isClient 16 = .ok (.ireturn, 1) := by decide +kernel
theorem dX7_isWaker_0 : decode cX7_isWaker 0 = .ok (.iload_n 1, 1) := by decide +kernel
theorem dX7_isWaker_1 : decode cX7_isWaker 1 = .ok (.i2l, 1) := by decide +kernel
theorem dX7_isWaker_2 : decode cX7_isWaker 2 = .ok (.lconst 0, 1) := by decide +kernel
theorem dX7_isWaker_3 : decode cX7_isWaker 3 = .ok (.aload_n 0, 1) := by decide +kernel
theorem dX7_isWaker_4 : decode cX7_isWaker 4 = .ok (.getfield 7, 3) := by decide +kernel
theorem dX7_isWaker_7 : decode cX7_isWaker 7 = .ok (.bipush 22, 2) := by decide +kernel
theorem dX7_isWaker_9 : decode cX7_isWaker 9 = .ok (.iaload, 1) := by decide +kernel
theorem dX7_isWaker_10 : decode cX7_isWaker 10 = .ok (.iconst 1, 1) := by decide +kernel
theorem dX7_isWaker_11 : decode cX7_isWaker 11 = .ok (.isub, 1) := by decide +kernel
theorem dX7_isWaker_12 : decode cX7_isWaker 12 = .ok (.i2l, 1) := by decide +kernel
theorem dX7_isWaker_13 : decode cX7_isWaker 13 = .ok (.invokestatic 45, 3) := by decide +kernel
theorem dX7_isWaker_16 : decode cX7_isWaker 16 = .ok (.ireturn, 1) := by decide +kernel
theorem dX7_isFit_0 : decode cX7_isFit 0 = .ok (.aload_n 0, 1) := by decide +kernel
theorem dX7_isFit_1 : decode cX7_isFit 1 = .ok (.getfield 7, 3) := by decide +kernel
theorem dX7_isFit_4 : decode cX7_isFit 4 = .ok (.iload_n 1, 1) := by decide +kernel
theorem dX7_isFit_5 : decode cX7_isFit 5 = .ok (.bipush 6, 2) := by decide +kernel
theorem dX7_isFit_7 : decode cX7_isFit 7 = .ok (.iadd, 1) := by decide +kernel
theorem dX7_isFit_8 : decode cX7_isFit 8 = .ok (.iload_n 2, 1) := by decide +kernel
theorem dX7_isFit_9 : decode cX7_isFit 9 = .ok (.iadd, 1) := by decide +kernel
theorem dX7_isFit_10 : decode cX7_isFit 10 = .ok (.iaload, 1) := by decide +kernel
theorem dX7_isFit_11 : decode cX7_isFit 11 = .ok (.aload_n 0, 1) := by decide +kernel
theorem dX7_isFit_12 : decode cX7_isFit 12 = .ok (.getfield 7, 3) := by decide +kernel
theorem dX7_isFit_15 : decode cX7_isFit 15 = .ok (.iload_n 1, 1) := by decide +kernel
theorem dX7_isFit_16 : decode cX7_isFit 16 = .ok (.bipush 23, 2) := by decide +kernel
theorem dX7_isFit_18 : decode cX7_isFit 18 = .ok (.iadd, 1) := by decide +kernel
theorem dX7_isFit_19 : decode cX7_isFit 19 = .ok (.aload_n 0, 1) := by decide +kernel
theorem dX7_isFit_20 : decode cX7_isFit 20 = .ok (.getfield 7, 3) := by decide +kernel
theorem dX7_isFit_23 : decode cX7_isFit 23 = .ok (.iload_n 1, 1) := by decide +kernel
theorem dX7_isFit_24 : decode cX7_isFit 24 = .ok (.bipush 10, 2) := by decide +kernel
theorem dX7_isFit_26 : decode cX7_isFit 26 = .ok (.iadd, 1) := by decide +kernel
theorem dX7_isFit_27 : decode cX7_isFit 27 = .ok (.iload_n 2, 1) := by decide +kernel
theorem dX7_isFit_28 : decode cX7_isFit 28 = .ok (.iadd, 1) := by decide +kernel
theorem dX7_isFit_29 : decode cX7_isFit 29 = .ok (.iaload, 1) := by decide +kernel
theorem dX7_isFit_30 : decode cX7_isFit 30 = .ok (.iadd, 1) := by decide +kernel
theorem dX7_isFit_31 : decode cX7_isFit 31 = .ok (.iaload, 1) := by decide +kernel
theorem dX7_isFit_32 : decode cX7_isFit 32 = .ok (.if_icmp .ne 7, 3) := by decide +kernel
theorem dX7_isFit_35 : decode cX7_isFit 35 = .ok (.iconst 1, 1) := by decide +kernel
theorem dX7_isFit_36 : decode cX7_isFit 36 = .ok (.goto 4, 3) := by decide +kernel
theorem dX7_isFit_39 : decode cX7_isFit 39 = .ok (.iconst 0, 1) := by decide +kernel
theorem dX7_isFit_40 : decode cX7_isFit 40 = .ok (.ireturn, 1) := by decide +kernel
theorem dX7_guards_0 : decode cX7_guards 0 = .ok (.iload_n 1, 1) := by decide +kernel
theorem dX7_guards_1 : decode cX7_guards 1 = .ok (.iconst 3, 1) := by decide +kernel
theorem dX7_guards_2 : decode cX7_guards 2 = .ok (.irem, 1) := by decide +kernel
theorem dX7_guards_3 : decode cX7_guards 3 = .ok (.iconst 2, 1) := by decide +kernel
theorem dX7_guards_4 : decode cX7_guards 4 = .ok (.if_icmp .ne 7, 3) := by decide +kernel
theorem dX7_guards_7 : decode cX7_guards 7 = .ok (.iconst 0, 1) := by decide +kernel
theorem dX7_guards_8 : decode cX7_guards 8 = .ok (.goto 4, 3) := by decide +kernel
theorem dX7_guards_11 : decode cX7_guards 11 = .ok (.iload_n 0, 1) := by decide +kernel
theorem dX7_guards_12 : decode cX7_guards 12 = .ok (.ireturn, 1) := by decide +kernel
theorem dX7_lies_0 : decode cX7_lies 0 = .ok (.aload_n 0, 1) := by decide +kernel
theorem dX7_lies_1 : decode cX7_lies 1 = .ok (.getfield 7, 3) := by decide +kernel
theorem dX7_lies_4 : decode cX7_lies 4 = .ok (.iload_n 1, 1) := by decide +kernel
theorem dX7_lies_5 : decode cX7_lies 5 = .ok (.bipush 32, 2) := by decide +kernel
theorem dX7_lies_7 : decode cX7_lies 7 = .ok (.iadd, 1) := by decide +kernel
theorem dX7_lies_8 : decode cX7_lies 8 = .ok (.iload_n 2, 1) := by decide +kernel
theorem dX7_lies_9 : decode cX7_lies 9 = .ok (.iadd, 1) := by decide +kernel
theorem dX7_lies_10 : decode cX7_lies 10 = .ok (.iaload, 1) := by decide +kernel
theorem dX7_lies_11 : decode cX7_lies 11 = .ok (.istore_n 3, 1) := by decide +kernel
theorem dX7_lies_12 : decode cX7_lies 12 = .ok (.aload_n 0, 1) := by decide +kernel
theorem dX7_lies_13 : decode cX7_lies 13 = .ok (.getfield 7, 3) := by decide +kernel
theorem dX7_lies_16 : decode cX7_lies 16 = .ok (.iload_n 1, 1) := by decide +kernel
theorem dX7_lies_17 : decode cX7_lies 17 = .ok (.iconst 0, 1) := by decide +kernel
theorem dX7_lies_18 : decode cX7_lies 18 = .ok (.iadd, 1) := by decide +kernel
theorem dX7_lies_19 : decode cX7_lies 19 = .ok (.iaload, 1) := by decide +kernel
theorem dX7_lies_20 : decode cX7_lies 20 = .ok (.istore 4, 2) := by decide +kernel
theorem dX7_lies_22 : decode cX7_lies 22 = .ok (.aload_n 0, 1) := by decide +kernel
theorem dX7_lies_23 : decode cX7_lies 23 = .ok (.getfield 7, 3) := by decide +kernel
theorem dX7_lies_26 : decode cX7_lies 26 = .ok (.iload_n 1, 1) := by decide +kernel
theorem dX7_lies_27 : decode cX7_lies 27 = .ok (.bipush 10, 2) := by decide +kernel
theorem dX7_lies_29 : decode cX7_lies 29 = .ok (.iadd, 1) := by decide +kernel
theorem dX7_lies_30 : decode cX7_lies 30 = .ok (.iload_n 2, 1) := by decide +kernel
theorem dX7_lies_31 : decode cX7_lies 31 = .ok (.iadd, 1) := by decide +kernel
theorem dX7_lies_32 : decode cX7_lies 32 = .ok (.iaload, 1) := by decide +kernel
theorem dX7_lies_33 : decode cX7_lies 33 = .ok (.iconst 5, 1) := by decide +kernel
theorem dX7_lies_34 : decode cX7_lies 34 = .ok (.if_icmp .ne 5, 3) := by decide +kernel
theorem dX7_lies_37 : decode cX7_lies 37 = .ok (.iconst 0, 1) := by decide +kernel
theorem dX7_lies_38 : decode cX7_lies 38 = .ok (.ireturn, 1) := by decide +kernel
theorem dX7_lies_39 : decode cX7_lies 39 = .ok (.aload_n 0, 1) := by decide +kernel
theorem dX7_lies_40 : decode cX7_lies 40 = .ok (.getfield 7, 3) := by decide +kernel
theorem dX7_lies_43 : decode cX7_lies 43 = .ok (.iload_n 1, 1) := by decide +kernel
theorem dX7_lies_44 : decode cX7_lies 44 = .ok (.bipush 28, 2) := by decide +kernel
theorem dX7_lies_46 : decode cX7_lies 46 = .ok (.iadd, 1) := by decide +kernel
theorem dX7_lies_47 : decode cX7_lies 47 = .ok (.iload_n 2, 1) := by decide +kernel
theorem dX7_lies_48 : decode cX7_lies 48 = .ok (.iadd, 1) := by decide +kernel
theorem dX7_lies_49 : decode cX7_lies 49 = .ok (.iaload, 1) := by decide +kernel
theorem dX7_lies_50 : decode cX7_lies 50 = .ok (.tableswitch 105 2 5 #[30, 53, 70, 77], 30) := by decide +kernel
theorem dX7_lies_80 : decode cX7_lies 80 = .ok (.iload 4, 2) := by decide +kernel
theorem dX7_lies_82 : decode cX7_lies 82 = .ok (.bipush 7, 2) := by decide +kernel
theorem dX7_lies_84 : decode cX7_lies 84 = .ok (.irem, 1) := by decide +kernel
theorem dX7_lies_85 : decode cX7_lies 85 = .ok (.aload_n 0, 1) := by decide +kernel
theorem dX7_lies_86 : decode cX7_lies 86 = .ok (.getfield 7, 3) := by decide +kernel
theorem dX7_lies_89 : decode cX7_lies 89 = .ok (.iload_n 1, 1) := by decide +kernel
theorem dX7_lies_90 : decode cX7_lies 90 = .ok (.bipush 20, 2) := by decide +kernel
theorem dX7_lies_92 : decode cX7_lies 92 = .ok (.iadd, 1) := by decide +kernel
theorem dX7_lies_93 : decode cX7_lies 93 = .ok (.iaload, 1) := by decide +kernel
theorem dX7_lies_94 : decode cX7_lies 94 = .ok (.if_icmp .ne 7, 3) := by decide +kernel
theorem dX7_lies_97 : decode cX7_lies 97 = .ok (.iconst 0, 1) := by decide +kernel
theorem dX7_lies_98 : decode cX7_lies 98 = .ok (.goto 4, 3) := by decide +kernel
theorem dX7_lies_101 : decode cX7_lies 101 = .ok (.iload_n 3, 1) := by decide +kernel
theorem dX7_lies_102 : decode cX7_lies 102 = .ok (.ireturn, 1) := by decide +kernel
theorem dX7_lies_103 : decode cX7_lies 103 = .ok (.aload_n 0, 1) := by decide +kernel
theorem dX7_lies_104 : decode cX7_lies 104 = .ok (.iload_n 1, 1) := by decide +kernel
theorem dX7_lies_105 : decode cX7_lies 105 = .ok (.iload_n 2, 1) := by decide +kernel
theorem dX7_lies_106 : decode cX7_lies 106 = .ok (.invokevirtual 126, 3) := by decide +kernel
theorem dX7_lies_109 : decode cX7_lies 109 = .ok (.ifCond .eq 9, 3) := by decide +kernel
theorem dX7_lies_112 : decode cX7_lies 112 = .ok (.iconst 2, 1) := by decide +kernel
theorem dX7_lies_113 : decode cX7_lies 113 = .ok (.iload_n 3, 1) := by decide +kernel
theorem dX7_lies_114 : decode cX7_lies 114 = .ok (.imul, 1) := by decide +kernel
theorem dX7_lies_115 : decode cX7_lies 115 = .ok (.goto 4, 3) := by decide +kernel
theorem dX7_lies_118 : decode cX7_lies 118 = .ok (.iload_n 3, 1) := by decide +kernel
theorem dX7_lies_119 : decode cX7_lies 119 = .ok (.ireturn, 1) := by decide +kernel
theorem dX7_lies_120 : decode cX7_lies 120 = .ok (.iload_n 3, 1) := by decide +kernel
theorem dX7_lies_121 : decode cX7_lies 121 = .ok (.iload 4, 2) := by decide +kernel
theorem dX7_lies_123 : decode cX7_lies 123 = .ok (.invokestatic 129, 3) := by decide +kernel
theorem dX7_lies_126 : decode cX7_lies 126 = .ok (.ireturn, 1) := by decide +kernel
theorem dX7_lies_127 : decode cX7_lies 127 = .ok (.iload_n 3, 1) := by decide +kernel
theorem dX7_lies_128 : decode cX7_lies 128 = .ok (.iload 4, 2) := by decide +kernel
theorem dX7_lies_130 : decode cX7_lies 130 = .ok (.invokestatic 129, 3) := by decide +kernel
theorem dX7_lies_133 : decode cX7_lies 133 = .ok (.iload 4, 2) := by decide +kernel
theorem dX7_lies_135 : decode cX7_lies 135 = .ok (.iconst 2, 1) := by decide +kernel
theorem dX7_lies_136 : decode cX7_lies 136 = .ok (.idiv, 1) := by decide +kernel
theorem dX7_lies_137 : decode cX7_lies 137 = .ok (.iadd, 1) := by decide +kernel
theorem dX7_lies_138 : decode cX7_lies 138 = .ok (.istore 5, 2) := by decide +kernel
theorem dX7_lies_140 : decode cX7_lies 140 = .ok (.iload 5, 2) := by decide +kernel
theorem dX7_lies_142 : decode cX7_lies 142 = .ok (.bipush 9, 2) := by decide +kernel
theorem dX7_lies_144 : decode cX7_lies 144 = .ok (.if_icmp .le 8, 3) := by decide +kernel
theorem dX7_lies_147 : decode cX7_lies 147 = .ok (.bipush 9, 2) := by decide +kernel
theorem dX7_lies_149 : decode cX7_lies 149 = .ok (.goto 5, 3) := by decide +kernel
theorem dX7_lies_152 : decode cX7_lies 152 = .ok (.iload 5, 2) := by decide +kernel
theorem dX7_lies_154 : decode cX7_lies 154 = .ok (.ireturn, 1) := by decide +kernel
theorem dX7_lies_155 : decode cX7_lies 155 = .ok (.iload_n 3, 1) := by decide +kernel
theorem dX7_lies_156 : decode cX7_lies 156 = .ok (.ireturn, 1) := by decide +kernel
theorem dX7_lighter_0 : decode cX7_lighter 0 = .ok (.iconst 0, 1) := by decide +kernel
theorem dX7_lighter_1 : decode cX7_lighter 1 = .ok (.istore 4, 2) := by decide +kernel
theorem dX7_lighter_3 : decode cX7_lighter 3 = .ok (.iconst 0, 1) := by decide +kernel
theorem dX7_lighter_4 : decode cX7_lighter 4 = .ok (.istore 5, 2) := by decide +kernel
theorem dX7_lighter_6 : decode cX7_lighter 6 = .ok (.iload 5, 2) := by decide +kernel
theorem dX7_lighter_8 : decode cX7_lighter 8 = .ok (.aload_n 0, 1) := by decide +kernel
theorem dX7_lighter_9 : decode cX7_lighter 9 = .ok (.getfield 7, 3) := by decide +kernel
theorem dX7_lighter_12 : decode cX7_lighter 12 = .ok (.iload_n 1, 1) := by decide +kernel
theorem dX7_lighter_13 : decode cX7_lighter 13 = .ok (.bipush 22, 2) := by decide +kernel
theorem dX7_lighter_15 : decode cX7_lighter 15 = .ok (.iadd, 1) := by decide +kernel
theorem dX7_lighter_16 : decode cX7_lighter 16 = .ok (.iaload, 1) := by decide +kernel
theorem dX7_lighter_17 : decode cX7_lighter 17 = .ok (.if_icmp .ge 81, 3) := by decide +kernel
theorem dX7_lighter_20 : decode cX7_lighter 20 = .ok (.aload_n 0, 1) := by decide +kernel
theorem dX7_lighter_21 : decode cX7_lighter 21 = .ok (.getfield 7, 3) := by decide +kernel
theorem dX7_lighter_24 : decode cX7_lighter 24 = .ok (.iload_n 1, 1) := by decide +kernel
theorem dX7_lighter_25 : decode cX7_lighter 25 = .ok (.bipush 10, 2) := by decide +kernel
theorem dX7_lighter_27 : decode cX7_lighter 27 = .ok (.iadd, 1) := by decide +kernel
theorem dX7_lighter_28 : decode cX7_lighter 28 = .ok (.iload 5, 2) := by decide +kernel
theorem dX7_lighter_30 : decode cX7_lighter 30 = .ok (.iadd, 1) := by decide +kernel
theorem dX7_lighter_31 : decode cX7_lighter 31 = .ok (.iaload, 1) := by decide +kernel
theorem dX7_lighter_32 : decode cX7_lighter 32 = .ok (.iload_n 2, 1) := by decide +kernel
theorem dX7_lighter_33 : decode cX7_lighter 33 = .ok (.if_icmp .ne 59, 3) := by decide +kernel
theorem dX7_lighter_36 : decode cX7_lighter 36 = .ok (.iload_n 3, 1) := by decide +kernel
theorem dX7_lighter_37 : decode cX7_lighter 37 = .ok (.iload 5, 2) := by decide +kernel
theorem dX7_lighter_39 : decode cX7_lighter 39 = .ok (.invokestatic 133, 3) := by decide +kernel
theorem dX7_lighter_42 : decode cX7_lighter 42 = .ok (.ifCond .ne 50, 3) := by decide +kernel
theorem dX7_lighter_45 : decode cX7_lighter 45 = .ok (.aload_n 0, 1) := by decide +kernel
theorem dX7_lighter_46 : decode cX7_lighter 46 = .ok (.iload_n 1, 1) := by decide +kernel
theorem dX7_lighter_47 : decode cX7_lighter 47 = .ok (.iload 5, 2) := by decide +kernel
theorem dX7_lighter_49 : decode cX7_lighter 49 = .ok (.invokevirtual 126, 3) := by decide +kernel
theorem dX7_lighter_52 : decode cX7_lighter 52 = .ok (.ifCond .eq 13, 3) := by decide +kernel
theorem dX7_lighter_55 : decode cX7_lighter 55 = .ok (.aload_n 0, 1) := by decide +kernel
theorem dX7_lighter_56 : decode cX7_lighter 56 = .ok (.iload_n 1, 1) := by decide +kernel
theorem dX7_lighter_57 : decode cX7_lighter 57 = .ok (.iload 5, 2) := by decide +kernel
theorem dX7_lighter_59 : decode cX7_lighter 59 = .ok (.invokevirtual 136, 3) := by decide +kernel
theorem dX7_lighter_62 : decode cX7_lighter 62 = .ok (.goto 12, 3) := by decide +kernel
theorem dX7_lighter_65 : decode cX7_lighter 65 = .ok (.aload_n 0, 1) := by decide +kernel
theorem dX7_lighter_66 : decode cX7_lighter 66 = .ok (.iload_n 1, 1) := by decide +kernel
theorem dX7_lighter_67 : decode cX7_lighter 67 = .ok (.iload 5, 2) := by decide +kernel
theorem dX7_lighter_69 : decode cX7_lighter 69 = .ok (.invokevirtual 136, 3) := by decide +kernel
theorem dX7_lighter_72 : decode cX7_lighter 72 = .ok (.iconst 2, 1) := by decide +kernel
theorem dX7_lighter_73 : decode cX7_lighter 73 = .ok (.idiv, 1) := by decide +kernel
theorem dX7_lighter_74 : decode cX7_lighter 74 = .ok (.istore 6, 2) := by decide +kernel
theorem dX7_lighter_76 : decode cX7_lighter 76 = .ok (.iload 6, 2) := by decide +kernel
theorem dX7_lighter_78 : decode cX7_lighter 78 = .ok (.iload 4, 2) := by decide +kernel
theorem dX7_lighter_80 : decode cX7_lighter 80 = .ok (.if_icmp .le 8, 3) := by decide +kernel
theorem dX7_lighter_83 : decode cX7_lighter 83 = .ok (.iload 6, 2) := by decide +kernel
theorem dX7_lighter_85 : decode cX7_lighter 85 = .ok (.goto 5, 3) := by decide +kernel
theorem dX7_lighter_88 : decode cX7_lighter 88 = .ok (.iload 4, 2) := by decide +kernel
theorem dX7_lighter_90 : decode cX7_lighter 90 = .ok (.istore 4, 2) := by decide +kernel
theorem dX7_lighter_92 : decode cX7_lighter 92 = .ok (.iinc 5 1, 3) := by decide +kernel
theorem dX7_lighter_95 : decode cX7_lighter 95 = .ok (.goto (-89), 3) := by decide +kernel
theorem dX7_lighter_98 : decode cX7_lighter 98 = .ok (.iload 4, 2) := by decide +kernel
theorem dX7_lighter_100 : decode cX7_lighter 100 = .ok (.ireturn, 1) := by decide +kernel
theorem dX7_passes_0 : decode cX7_passes 0 = .ok (.iconst 0, 1) := by decide +kernel
theorem dX7_passes_1 : decode cX7_passes 1 = .ok (.istore_n 3, 1) := by decide +kernel
theorem dX7_passes_2 : decode cX7_passes 2 = .ok (.iload_n 3, 1) := by decide +kernel
theorem dX7_passes_3 : decode cX7_passes 3 = .ok (.aload_n 0, 1) := by decide +kernel
theorem dX7_passes_4 : decode cX7_passes 4 = .ok (.getfield 7, 3) := by decide +kernel
theorem dX7_passes_7 : decode cX7_passes 7 = .ok (.iload_n 1, 1) := by decide +kernel
theorem dX7_passes_8 : decode cX7_passes 8 = .ok (.bipush 21, 2) := by decide +kernel
theorem dX7_passes_10 : decode cX7_passes 10 = .ok (.iadd, 1) := by decide +kernel
theorem dX7_passes_11 : decode cX7_passes 11 = .ok (.iaload, 1) := by decide +kernel
theorem dX7_passes_12 : decode cX7_passes 12 = .ok (.if_icmp .ge 91, 3) := by decide +kernel
theorem dX7_passes_15 : decode cX7_passes 15 = .ok (.aload_n 0, 1) := by decide +kernel
theorem dX7_passes_16 : decode cX7_passes 16 = .ok (.iload_n 1, 1) := by decide +kernel
theorem dX7_passes_17 : decode cX7_passes 17 = .ok (.iload_n 3, 1) := by decide +kernel
theorem dX7_passes_18 : decode cX7_passes 18 = .ok (.iload_n 2, 1) := by decide +kernel
theorem dX7_passes_19 : decode cX7_passes 19 = .ok (.invokevirtual 139, 3) := by decide +kernel
theorem dX7_passes_22 : decode cX7_passes 22 = .ok (.istore 4, 2) := by decide +kernel
theorem dX7_passes_24 : decode cX7_passes 24 = .ok (.aload_n 0, 1) := by decide +kernel
theorem dX7_passes_25 : decode cX7_passes 25 = .ok (.getfield 7, 3) := by decide +kernel
theorem dX7_passes_28 : decode cX7_passes 28 = .ok (.iload_n 1, 1) := by decide +kernel
theorem dX7_passes_29 : decode cX7_passes 29 = .ok (.iconst 1, 1) := by decide +kernel
theorem dX7_passes_30 : decode cX7_passes 30 = .ok (.iadd, 1) := by decide +kernel
theorem dX7_passes_31 : decode cX7_passes 31 = .ok (.iload_n 3, 1) := by decide +kernel
theorem dX7_passes_32 : decode cX7_passes 32 = .ok (.iadd, 1) := by decide +kernel
theorem dX7_passes_33 : decode cX7_passes 33 = .ok (.iaload, 1) := by decide +kernel
theorem dX7_passes_34 : decode cX7_passes 34 = .ok (.istore 5, 2) := by decide +kernel
theorem dX7_passes_36 : decode cX7_passes 36 = .ok (.iload 4, 2) := by decide +kernel
theorem dX7_passes_38 : decode cX7_passes 38 = .ok (.ifCond .le 11, 3) := by decide +kernel
theorem dX7_passes_41 : decode cX7_passes 41 = .ok (.iload 5, 2) := by decide +kernel
theorem dX7_passes_43 : decode cX7_passes 43 = .ok (.iload 4, 2) := by decide +kernel
theorem dX7_passes_45 : decode cX7_passes 45 = .ok (.isub, 1) := by decide +kernel
theorem dX7_passes_46 : decode cX7_passes 46 = .ok (.goto 16, 3) := by decide +kernel
theorem dX7_passes_49 : decode cX7_passes 49 = .ok (.iload 5, 2) := by decide +kernel
theorem dX7_passes_51 : decode cX7_passes 51 = .ok (.ifCond .le 10, 3) := by decide +kernel
theorem dX7_passes_54 : decode cX7_passes 54 = .ok (.iload 5, 2) := by decide +kernel
theorem dX7_passes_56 : decode cX7_passes 56 = .ok (.iconst 1, 1) := by decide +kernel
theorem dX7_passes_57 : decode cX7_passes 57 = .ok (.iadd, 1) := by decide +kernel
theorem dX7_passes_58 : decode cX7_passes 58 = .ok (.goto 4, 3) := by decide +kernel
theorem dX7_passes_61 : decode cX7_passes 61 = .ok (.iconst 0, 1) := by decide +kernel
theorem dX7_passes_62 : decode cX7_passes 62 = .ok (.istore 6, 2) := by decide +kernel
theorem dX7_passes_64 : decode cX7_passes 64 = .ok (.aload_n 0, 1) := by decide +kernel
theorem dX7_passes_65 : decode cX7_passes 65 = .ok (.getfield 7, 3) := by decide +kernel
theorem dX7_passes_68 : decode cX7_passes 68 = .ok (.iload_n 1, 1) := by decide +kernel
theorem dX7_passes_69 : decode cX7_passes 69 = .ok (.iconst 1, 1) := by decide +kernel
theorem dX7_passes_70 : decode cX7_passes 70 = .ok (.iadd, 1) := by decide +kernel
theorem dX7_passes_71 : decode cX7_passes 71 = .ok (.iload_n 3, 1) := by decide +kernel
theorem dX7_passes_72 : decode cX7_passes 72 = .ok (.iadd, 1) := by decide +kernel
theorem dX7_passes_73 : decode cX7_passes 73 = .ok (.iload 6, 2) := by decide +kernel
theorem dX7_passes_75 : decode cX7_passes 75 = .ok (.ifCond .ge 7, 3) := by decide +kernel
theorem dX7_passes_78 : decode cX7_passes 78 = .ok (.iconst 0, 1) := by decide +kernel
theorem dX7_passes_79 : decode cX7_passes 79 = .ok (.goto 17, 3) := by decide +kernel
theorem dX7_passes_82 : decode cX7_passes 82 = .ok (.iload 6, 2) := by decide +kernel
theorem dX7_passes_84 : decode cX7_passes 84 = .ok (.bipush 99, 2) := by decide +kernel
theorem dX7_passes_86 : decode cX7_passes 86 = .ok (.if_icmp .le 8, 3) := by decide +kernel
theorem dX7_passes_89 : decode cX7_passes 89 = .ok (.bipush 99, 2) := by decide +kernel
theorem dX7_passes_91 : decode cX7_passes 91 = .ok (.goto 5, 3) := by decide +kernel
theorem dX7_passes_94 : decode cX7_passes 94 = .ok (.iload 6, 2) := by decide +kernel
theorem dX7_passes_96 : decode cX7_passes 96 = .ok (.iastore, 1) := by decide +kernel
theorem dX7_passes_97 : decode cX7_passes 97 = .ok (.iinc 3 1, 3) := by decide +kernel
theorem dX7_passes_100 : decode cX7_passes 100 = .ok (.goto (-98), 3) := by decide +kernel
theorem dX7_passes_103 : decode cX7_passes 103 = .ok (.iconst 0, 1) := by decide +kernel
theorem dX7_passes_104 : decode cX7_passes 104 = .ok (.istore_n 3, 1) := by decide +kernel
theorem dX7_passes_105 : decode cX7_passes 105 = .ok (.iload_n 3, 1) := by decide +kernel
theorem dX7_passes_106 : decode cX7_passes 106 = .ok (.aload_n 0, 1) := by decide +kernel
theorem dX7_passes_107 : decode cX7_passes 107 = .ok (.getfield 7, 3) := by decide +kernel
theorem dX7_passes_110 : decode cX7_passes 110 = .ok (.iload_n 1, 1) := by decide +kernel
theorem dX7_passes_111 : decode cX7_passes 111 = .ok (.bipush 22, 2) := by decide +kernel
theorem dX7_passes_113 : decode cX7_passes 113 = .ok (.iadd, 1) := by decide +kernel
theorem dX7_passes_114 : decode cX7_passes 114 = .ok (.iaload, 1) := by decide +kernel
theorem dX7_passes_115 : decode cX7_passes 115 = .ok (.if_icmp .ge 41, 3) := by decide +kernel
theorem dX7_passes_118 : decode cX7_passes 118 = .ok (.aload_n 0, 1) := by decide +kernel
theorem dX7_passes_119 : decode cX7_passes 119 = .ok (.getfield 7, 3) := by decide +kernel
theorem dX7_passes_122 : decode cX7_passes 122 = .ok (.iload_n 1, 1) := by decide +kernel
theorem dX7_passes_123 : decode cX7_passes 123 = .ok (.bipush 14, 2) := by decide +kernel
theorem dX7_passes_125 : decode cX7_passes 125 = .ok (.iadd, 1) := by decide +kernel
theorem dX7_passes_126 : decode cX7_passes 126 = .ok (.iload_n 3, 1) := by decide +kernel
theorem dX7_passes_127 : decode cX7_passes 127 = .ok (.iadd, 1) := by decide +kernel
theorem dX7_passes_128 : decode cX7_passes 128 = .ok (.dup2, 1) := by decide +kernel
theorem dX7_passes_129 : decode cX7_passes 129 = .ok (.iaload, 1) := by decide +kernel
theorem dX7_passes_130 : decode cX7_passes 130 = .ok (.iload_n 2, 1) := by decide +kernel
theorem dX7_passes_131 : decode cX7_passes 131 = .ok (.iload_n 3, 1) := by decide +kernel
theorem dX7_passes_132 : decode cX7_passes 132 = .ok (.invokestatic 133, 3) := by decide +kernel
theorem dX7_passes_135 : decode cX7_passes 135 = .ok (.ifCond .eq 7, 3) := by decide +kernel
theorem dX7_passes_138 : decode cX7_passes 138 = .ok (.iconst 0, 1) := by decide +kernel
theorem dX7_passes_139 : decode cX7_passes 139 = .ok (.goto 9, 3) := by decide +kernel
theorem dX7_passes_142 : decode cX7_passes 142 = .ok (.aload_n 0, 1) := by decide +kernel
theorem dX7_passes_143 : decode cX7_passes 143 = .ok (.iload_n 1, 1) := by decide +kernel
theorem dX7_passes_144 : decode cX7_passes 144 = .ok (.iload_n 3, 1) := by decide +kernel
theorem dX7_passes_145 : decode cX7_passes 145 = .ok (.invokevirtual 136, 3) := by decide +kernel
theorem dX7_passes_148 : decode cX7_passes 148 = .ok (.iadd, 1) := by decide +kernel
theorem dX7_passes_149 : decode cX7_passes 149 = .ok (.iastore, 1) := by decide +kernel
theorem dX7_passes_150 : decode cX7_passes 150 = .ok (.iinc 3 1, 3) := by decide +kernel
theorem dX7_passes_153 : decode cX7_passes 153 = .ok (.goto (-48), 3) := by decide +kernel
theorem dX7_passes_156 : decode cX7_passes 156 = .ok (.aload_n 0, 1) := by decide +kernel
theorem dX7_passes_157 : decode cX7_passes 157 = .ok (.getfield 7, 3) := by decide +kernel
theorem dX7_passes_160 : decode cX7_passes 160 = .ok (.iload_n 1, 1) := by decide +kernel
theorem dX7_passes_161 : decode cX7_passes 161 = .ok (.iconst 0, 1) := by decide +kernel
theorem dX7_passes_162 : decode cX7_passes 162 = .ok (.iadd, 1) := by decide +kernel
theorem dX7_passes_163 : decode cX7_passes 163 = .ok (.dup2, 1) := by decide +kernel
theorem dX7_passes_164 : decode cX7_passes 164 = .ok (.iaload, 1) := by decide +kernel
theorem dX7_passes_165 : decode cX7_passes 165 = .ok (.iconst 1, 1) := by decide +kernel
theorem dX7_passes_166 : decode cX7_passes 166 = .ok (.iadd, 1) := by decide +kernel
theorem dX7_passes_167 : decode cX7_passes 167 = .ok (.iastore, 1) := by decide +kernel
theorem dX7_passes_168 : decode cX7_passes 168 = .ok (.return_, 1) := by decide +kernel
theorem dX7_restsIn_0 : decode cX7_restsIn 0 = .ok (.iconst 0, 1) := by decide +kernel
theorem dX7_restsIn_1 : decode cX7_restsIn 1 = .ok (.istore_n 2, 1) := by decide +kernel
theorem dX7_restsIn_2 : decode cX7_restsIn 2 = .ok (.iconst 0, 1) := by decide +kernel
theorem dX7_restsIn_3 : decode cX7_restsIn 3 = .ok (.istore_n 3, 1) := by decide +kernel
theorem dX7_restsIn_4 : decode cX7_restsIn 4 = .ok (.iload_n 3, 1) := by decide +kernel
theorem dX7_restsIn_5 : decode cX7_restsIn 5 = .ok (.aload_n 0, 1) := by decide +kernel
theorem dX7_restsIn_6 : decode cX7_restsIn 6 = .ok (.getfield 7, 3) := by decide +kernel
theorem dX7_restsIn_9 : decode cX7_restsIn 9 = .ok (.iload_n 1, 1) := by decide +kernel
theorem dX7_restsIn_10 : decode cX7_restsIn 10 = .ok (.bipush 21, 2) := by decide +kernel
theorem dX7_restsIn_12 : decode cX7_restsIn 12 = .ok (.iadd, 1) := by decide +kernel
theorem dX7_restsIn_13 : decode cX7_restsIn 13 = .ok (.iaload, 1) := by decide +kernel
theorem dX7_restsIn_14 : decode cX7_restsIn 14 = .ok (.if_icmp .ge 41, 3) := by decide +kernel
theorem dX7_restsIn_17 : decode cX7_restsIn 17 = .ok (.iload_n 2, 1) := by decide +kernel
theorem dX7_restsIn_18 : decode cX7_restsIn 18 = .ok (.aload_n 0, 1) := by decide +kernel
theorem dX7_restsIn_19 : decode cX7_restsIn 19 = .ok (.getfield 7, 3) := by decide +kernel
theorem dX7_restsIn_22 : decode cX7_restsIn 22 = .ok (.iload_n 1, 1) := by decide +kernel
theorem dX7_restsIn_23 : decode cX7_restsIn 23 = .ok (.iconst 1, 1) := by decide +kernel
theorem dX7_restsIn_24 : decode cX7_restsIn 24 = .ok (.iadd, 1) := by decide +kernel
theorem dX7_restsIn_25 : decode cX7_restsIn 25 = .ok (.iload_n 3, 1) := by decide +kernel
theorem dX7_restsIn_26 : decode cX7_restsIn 26 = .ok (.iadd, 1) := by decide +kernel
theorem dX7_restsIn_27 : decode cX7_restsIn 27 = .ok (.iaload, 1) := by decide +kernel
theorem dX7_restsIn_28 : decode cX7_restsIn 28 = .ok (.aload_n 0, 1) := by decide +kernel
theorem dX7_restsIn_29 : decode cX7_restsIn 29 = .ok (.getfield 7, 3) := by decide +kernel
theorem dX7_restsIn_32 : decode cX7_restsIn 32 = .ok (.iload_n 1, 1) := by decide +kernel
theorem dX7_restsIn_33 : decode cX7_restsIn 33 = .ok (.bipush 19, 2) := by decide +kernel
theorem dX7_restsIn_35 : decode cX7_restsIn 35 = .ok (.iadd, 1) := by decide +kernel
theorem dX7_restsIn_36 : decode cX7_restsIn 36 = .ok (.iaload, 1) := by decide +kernel
theorem dX7_restsIn_37 : decode cX7_restsIn 37 = .ok (.if_icmp .gt 9, 3) := by decide +kernel
theorem dX7_restsIn_40 : decode cX7_restsIn 40 = .ok (.iconst 1, 1) := by decide +kernel
theorem dX7_restsIn_41 : decode cX7_restsIn 41 = .ok (.iload_n 3, 1) := by decide +kernel
theorem dX7_restsIn_42 : decode cX7_restsIn 42 = .ok (.ishl, 1) := by decide +kernel
theorem dX7_restsIn_43 : decode cX7_restsIn 43 = .ok (.goto 4, 3) := by decide +kernel
theorem dX7_restsIn_46 : decode cX7_restsIn 46 = .ok (.iconst 0, 1) := by decide +kernel
theorem dX7_restsIn_47 : decode cX7_restsIn 47 = .ok (.ior, 1) := by decide +kernel
theorem dX7_restsIn_48 : decode cX7_restsIn 48 = .ok (.istore_n 2, 1) := by decide +kernel
theorem dX7_restsIn_49 : decode cX7_restsIn 49 = .ok (.iinc 3 1, 3) := by decide +kernel
theorem dX7_restsIn_52 : decode cX7_restsIn 52 = .ok (.goto (-48), 3) := by decide +kernel
theorem dX7_restsIn_55 : decode cX7_restsIn 55 = .ok (.iload_n 2, 1) := by decide +kernel
theorem dX7_restsIn_56 : decode cX7_restsIn 56 = .ok (.ireturn, 1) := by decide +kernel
theorem dX7_minds_0 : decode cX7_minds 0 = .ok (.aload_n 0, 1) := by decide +kernel
theorem dX7_minds_1 : decode cX7_minds 1 = .ok (.getfield 123, 3) := by decide +kernel
theorem dX7_minds_4 : decode cX7_minds 4 = .ok (.bipush 24, 2) := by decide +kernel
theorem dX7_minds_6 : decode cX7_minds 6 = .ok (.if_icmp .ne 43, 3) := by decide +kernel
theorem dX7_minds_9 : decode cX7_minds 9 = .ok (.iconst 0, 1) := by decide +kernel
theorem dX7_minds_10 : decode cX7_minds 10 = .ok (.istore_n 1, 1) := by decide +kernel
theorem dX7_minds_11 : decode cX7_minds 11 = .ok (.iload_n 1, 1) := by decide +kernel
theorem dX7_minds_12 : decode cX7_minds 12 = .ok (.sipush 414, 3) := by decide +kernel
theorem dX7_minds_15 : decode cX7_minds 15 = .ok (.if_icmp .ge 24, 3) := by decide +kernel
theorem dX7_minds_18 : decode cX7_minds 18 = .ok (.aload_n 0, 1) := by decide +kernel
theorem dX7_minds_19 : decode cX7_minds 19 = .ok (.getfield 17, 3) := by decide +kernel
theorem dX7_minds_22 : decode cX7_minds 22 = .ok (.iload_n 1, 1) := by decide +kernel
theorem dX7_minds_23 : decode cX7_minds 23 = .ok (.aload_n 0, 1) := by decide +kernel
theorem dX7_minds_24 : decode cX7_minds 24 = .ok (.getfield 17, 3) := by decide +kernel
theorem dX7_minds_27 : decode cX7_minds 27 = .ok (.iload_n 1, 1) := by decide +kernel
theorem dX7_minds_28 : decode cX7_minds 28 = .ok (.bipush 18, 2) := by decide +kernel
theorem dX7_minds_30 : decode cX7_minds 30 = .ok (.iadd, 1) := by decide +kernel
theorem dX7_minds_31 : decode cX7_minds 31 = .ok (.iaload, 1) := by decide +kernel
theorem dX7_minds_32 : decode cX7_minds 32 = .ok (.iastore, 1) := by decide +kernel
theorem dX7_minds_33 : decode cX7_minds 33 = .ok (.iinc 1 1, 3) := by decide +kernel
theorem dX7_minds_36 : decode cX7_minds 36 = .ok (.goto (-25), 3) := by decide +kernel
theorem dX7_minds_39 : decode cX7_minds 39 = .ok (.aload_n 0, 1) := by decide +kernel
theorem dX7_minds_40 : decode cX7_minds 40 = .ok (.dup, 1) := by decide +kernel
theorem dX7_minds_41 : decode cX7_minds 41 = .ok (.getfield 123, 3) := by decide +kernel
theorem dX7_minds_44 : decode cX7_minds 44 = .ok (.iconst 1, 1) := by decide +kernel
theorem dX7_minds_45 : decode cX7_minds 45 = .ok (.isub, 1) := by decide +kernel
theorem dX7_minds_46 : decode cX7_minds 46 = .ok (.putfield 123, 3) := by decide +kernel
theorem dX7_minds_49 : decode cX7_minds 49 = .ok (.iconst 0, 1) := by decide +kernel
theorem dX7_minds_50 : decode cX7_minds 50 = .ok (.istore_n 1, 1) := by decide +kernel
theorem dX7_minds_51 : decode cX7_minds 51 = .ok (.iload_n 1, 1) := by decide +kernel
theorem dX7_minds_52 : decode cX7_minds 52 = .ok (.bipush 18, 2) := by decide +kernel
theorem dX7_minds_54 : decode cX7_minds 54 = .ok (.if_icmp .ge 29, 3) := by decide +kernel
theorem dX7_minds_57 : decode cX7_minds 57 = .ok (.aload_n 0, 1) := by decide +kernel
theorem dX7_minds_58 : decode cX7_minds 58 = .ok (.getfield 17, 3) := by decide +kernel
theorem dX7_minds_61 : decode cX7_minds 61 = .ok (.bipush 18, 2) := by decide +kernel
theorem dX7_minds_63 : decode cX7_minds 63 = .ok (.aload_n 0, 1) := by decide +kernel
theorem dX7_minds_64 : decode cX7_minds 64 = .ok (.getfield 123, 3) := by decide +kernel
theorem dX7_minds_67 : decode cX7_minds 67 = .ok (.imul, 1) := by decide +kernel
theorem dX7_minds_68 : decode cX7_minds 68 = .ok (.iload_n 1, 1) := by decide +kernel
theorem dX7_minds_69 : decode cX7_minds 69 = .ok (.iadd, 1) := by decide +kernel
theorem dX7_minds_70 : decode cX7_minds 70 = .ok (.aload_n 0, 1) := by decide +kernel
theorem dX7_minds_71 : decode cX7_minds 71 = .ok (.getfield 7, 3) := by decide +kernel
theorem dX7_minds_74 : decode cX7_minds 74 = .ok (.iload_n 1, 1) := by decide +kernel
theorem dX7_minds_75 : decode cX7_minds 75 = .ok (.iaload, 1) := by decide +kernel
theorem dX7_minds_76 : decode cX7_minds 76 = .ok (.iastore, 1) := by decide +kernel
theorem dX7_minds_77 : decode cX7_minds 77 = .ok (.iinc 1 1, 3) := by decide +kernel
theorem dX7_minds_80 : decode cX7_minds 80 = .ok (.goto (-29), 3) := by decide +kernel
theorem dX7_minds_83 : decode cX7_minds 83 = .ok (.aload_n 0, 1) := by decide +kernel
theorem dX7_minds_84 : decode cX7_minds 84 = .ok (.dup, 1) := by decide +kernel
theorem dX7_minds_85 : decode cX7_minds 85 = .ok (.getfield 123, 3) := by decide +kernel
theorem dX7_minds_88 : decode cX7_minds 88 = .ok (.iconst 1, 1) := by decide +kernel
theorem dX7_minds_89 : decode cX7_minds 89 = .ok (.iadd, 1) := by decide +kernel
theorem dX7_minds_90 : decode cX7_minds 90 = .ok (.putfield 123, 3) := by decide +kernel
theorem dX7_minds_93 : decode cX7_minds 93 = .ok (.return_, 1) := by decide +kernel
theorem dX7_nights_0 : decode cX7_nights 0 = .ok (.aload_n 0, 1) := by decide +kernel
theorem dX7_nights_1 : decode cX7_nights 1 = .ok (.invokevirtual 143, 3) := by decide +kernel
theorem dX7_nights_4 : decode cX7_nights 4 = .ok (.ifCond .ne 6, 3) := by decide +kernel
theorem dX7_nights_7 : decode cX7_nights 7 = .ok (.ldc 146, 2) := by decide +kernel
theorem dX7_nights_9 : decode cX7_nights 9 = .ok (.ireturn, 1) := by decide +kernel
theorem dX7_nights_10 : decode cX7_nights 10 = .ok (.iload_n 1, 1) := by decide +kernel
theorem dX7_nights_11 : decode cX7_nights 11 = .ok (.i2l, 1) := by decide +kernel
theorem dX7_nights_12 : decode cX7_nights 12 = .ok (.lconst 1, 1) := by decide +kernel
theorem dX7_nights_13 : decode cX7_nights 13 = .ok (.ldc2_w 147, 3) := by decide +kernel
theorem dX7_nights_16 : decode cX7_nights 16 = .ok (.invokestatic 45, 3) := by decide +kernel
theorem dX7_nights_19 : decode cX7_nights 19 = .ok (.ifCond .ne 6, 3) := by decide +kernel
theorem dX7_nights_22 : decode cX7_nights 22 = .ok (.ldc 55, 2) := by decide +kernel
theorem dX7_nights_24 : decode cX7_nights 24 = .ok (.ireturn, 1) := by decide +kernel
theorem dX7_nights_25 : decode cX7_nights 25 = .ok (.aload_n 0, 1) := by decide +kernel
theorem dX7_nights_26 : decode cX7_nights 26 = .ok (.getfield 7, 3) := by decide +kernel
theorem dX7_nights_29 : decode cX7_nights 29 = .ok (.iconst 0, 1) := by decide +kernel
theorem dX7_nights_30 : decode cX7_nights 30 = .ok (.iaload, 1) := by decide +kernel
theorem dX7_nights_31 : decode cX7_nights 31 = .ok (.iload_n 1, 1) := by decide +kernel
theorem dX7_nights_32 : decode cX7_nights 32 = .ok (.iadd, 1) := by decide +kernel
theorem dX7_nights_33 : decode cX7_nights 33 = .ok (.sipush 999, 3) := by decide +kernel
theorem dX7_nights_36 : decode cX7_nights 36 = .ok (.if_icmp .le 6, 3) := by decide +kernel
theorem dX7_nights_39 : decode cX7_nights 39 = .ok (.ldc 72, 2) := by decide +kernel
theorem dX7_nights_41 : decode cX7_nights 41 = .ok (.ireturn, 1) := by decide +kernel
theorem dX7_nights_42 : decode cX7_nights 42 = .ok (.iconst 0, 1) := by decide +kernel
theorem dX7_nights_43 : decode cX7_nights 43 = .ok (.istore_n 2, 1) := by decide +kernel
theorem dX7_nights_44 : decode cX7_nights 44 = .ok (.iload_n 2, 1) := by decide +kernel
theorem dX7_nights_45 : decode cX7_nights 45 = .ok (.iload_n 1, 1) := by decide +kernel
theorem dX7_nights_46 : decode cX7_nights 46 = .ok (.if_icmp .ge 19, 3) := by decide +kernel
theorem dX7_nights_49 : decode cX7_nights 49 = .ok (.aload_n 0, 1) := by decide +kernel
theorem dX7_nights_50 : decode cX7_nights 50 = .ok (.invokevirtual 149, 3) := by decide +kernel
theorem dX7_nights_53 : decode cX7_nights 53 = .ok (.aload_n 0, 1) := by decide +kernel
theorem dX7_nights_54 : decode cX7_nights 54 = .ok (.iconst 0, 1) := by decide +kernel
theorem dX7_nights_55 : decode cX7_nights 55 = .ok (.iconst 0, 1) := by decide +kernel
theorem dX7_nights_56 : decode cX7_nights 56 = .ok (.invokevirtual 152, 3) := by decide +kernel
theorem dX7_nights_59 : decode cX7_nights 59 = .ok (.iinc 2 1, 3) := by decide +kernel
theorem dX7_nights_62 : decode cX7_nights 62 = .ok (.goto (-18), 3) := by decide +kernel
theorem dX7_nights_65 : decode cX7_nights 65 = .ok (.aload_n 0, 1) := by decide +kernel
theorem dX7_nights_66 : decode cX7_nights 66 = .ok (.iconst 0, 1) := by decide +kernel
theorem dX7_nights_67 : decode cX7_nights 67 = .ok (.invokevirtual 155, 3) := by decide +kernel
theorem dX7_nights_70 : decode cX7_nights 70 = .ok (.ireturn, 1) := by decide +kernel
theorem dX7_let_0 : decode cX7_let 0 = .ok (.aload_n 0, 1) := by decide +kernel
theorem dX7_let_1 : decode cX7_let 1 = .ok (.iload_n 1, 1) := by decide +kernel
theorem dX7_let_2 : decode cX7_let 2 = .ok (.invokevirtual 158, 3) := by decide +kernel
theorem dX7_let_5 : decode cX7_let 5 = .ok (.ifCond .eq 16, 3) := by decide +kernel
theorem dX7_let_8 : decode cX7_let 8 = .ok (.iload_n 2, 1) := by decide +kernel
theorem dX7_let_9 : decode cX7_let 9 = .ok (.iconst 5, 1) := by decide +kernel
theorem dX7_let_10 : decode cX7_let 10 = .ok (.if_icmp .eq 14, 3) := by decide +kernel
theorem dX7_let_13 : decode cX7_let 13 = .ok (.aload_n 0, 1) := by decide +kernel
theorem dX7_let_14 : decode cX7_let 14 = .ok (.iload_n 2, 1) := by decide +kernel
theorem dX7_let_15 : decode cX7_let 15 = .ok (.invokevirtual 161, 3) := by decide +kernel
theorem dX7_let_18 : decode cX7_let 18 = .ok (.ifCond .ne 6, 3) := by decide +kernel
theorem dX7_let_21 : decode cX7_let 21 = .ok (.ldc 55, 2) := by decide +kernel
theorem dX7_let_23 : decode cX7_let 23 = .ok (.ireturn, 1) := by decide +kernel
theorem dX7_let_24 : decode cX7_let 24 = .ok (.aload_n 0, 1) := by decide +kernel
theorem dX7_let_25 : decode cX7_let 25 = .ok (.getfield 7, 3) := by decide +kernel
theorem dX7_let_28 : decode cX7_let 28 = .ok (.bipush 10, 2) := by decide +kernel
theorem dX7_let_30 : decode cX7_let 30 = .ok (.iload_n 1, 1) := by decide +kernel
theorem dX7_let_31 : decode cX7_let 31 = .ok (.iadd, 1) := by decide +kernel
theorem dX7_let_32 : decode cX7_let 32 = .ok (.iaload, 1) := by decide +kernel
theorem dX7_let_33 : decode cX7_let 33 = .ok (.istore_n 3, 1) := by decide +kernel
theorem dX7_let_34 : decode cX7_let 34 = .ok (.iload_n 3, 1) := by decide +kernel
theorem dX7_let_35 : decode cX7_let 35 = .ok (.iload_n 2, 1) := by decide +kernel
theorem dX7_let_36 : decode cX7_let 36 = .ok (.if_icmp .ne 6, 3) := by decide +kernel
theorem dX7_let_39 : decode cX7_let 39 = .ok (.ldc 146, 2) := by decide +kernel
theorem dX7_let_41 : decode cX7_let 41 = .ok (.ireturn, 1) := by decide +kernel
theorem dX7_let_42 : decode cX7_let 42 = .ok (.aload_n 0, 1) := by decide +kernel
theorem dX7_let_43 : decode cX7_let 43 = .ok (.invokevirtual 149, 3) := by decide +kernel
theorem dX7_let_46 : decode cX7_let 46 = .ok (.aload_n 0, 1) := by decide +kernel
theorem dX7_let_47 : decode cX7_let 47 = .ok (.getfield 7, 3) := by decide +kernel
theorem dX7_let_50 : decode cX7_let 50 = .ok (.bipush 10, 2) := by decide +kernel
theorem dX7_let_52 : decode cX7_let 52 = .ok (.iload_n 1, 1) := by decide +kernel
theorem dX7_let_53 : decode cX7_let 53 = .ok (.iadd, 1) := by decide +kernel
theorem dX7_let_54 : decode cX7_let 54 = .ok (.iload_n 2, 1) := by decide +kernel
theorem dX7_let_55 : decode cX7_let 55 = .ok (.iastore, 1) := by decide +kernel
theorem dX7_let_56 : decode cX7_let 56 = .ok (.iload_n 3, 1) := by decide +kernel
theorem dX7_let_57 : decode cX7_let 57 = .ok (.ireturn, 1) := by decide +kernel
theorem dX7_grow_0 : decode cX7_grow 0 = .ok (.aload_n 0, 1) := by decide +kernel
theorem dX7_grow_1 : decode cX7_grow 1 = .ok (.iload_n 1, 1) := by decide +kernel
theorem dX7_grow_2 : decode cX7_grow 2 = .ok (.invokevirtual 161, 3) := by decide +kernel
theorem dX7_grow_5 : decode cX7_grow 5 = .ok (.ifCond .eq 15, 3) := by decide +kernel
theorem dX7_grow_8 : decode cX7_grow 8 = .ok (.iload_n 2, 1) := by decide +kernel
theorem dX7_grow_9 : decode cX7_grow 9 = .ok (.i2l, 1) := by decide +kernel
theorem dX7_grow_10 : decode cX7_grow 10 = .ok (.lconst 1, 1) := by decide +kernel
theorem dX7_grow_11 : decode cX7_grow 11 = .ok (.ldc2_w 164, 3) := by decide +kernel
theorem dX7_grow_14 : decode cX7_grow 14 = .ok (.invokestatic 45, 3) := by decide +kernel
theorem dX7_grow_17 : decode cX7_grow 17 = .ok (.ifCond .ne 6, 3) := by decide +kernel
theorem dX7_grow_20 : decode cX7_grow 20 = .ok (.ldc 55, 2) := by decide +kernel
theorem dX7_grow_22 : decode cX7_grow 22 = .ok (.ireturn, 1) := by decide +kernel
theorem dX7_grow_23 : decode cX7_grow 23 = .ok (.aload_n 0, 1) := by decide +kernel
theorem dX7_grow_24 : decode cX7_grow 24 = .ok (.invokevirtual 149, 3) := by decide +kernel
theorem dX7_grow_27 : decode cX7_grow 27 = .ok (.aload_n 0, 1) := by decide +kernel
theorem dX7_grow_28 : decode cX7_grow 28 = .ok (.getfield 7, 3) := by decide +kernel
theorem dX7_grow_31 : decode cX7_grow 31 = .ok (.iconst 1, 1) := by decide +kernel
theorem dX7_grow_32 : decode cX7_grow 32 = .ok (.iload_n 1, 1) := by decide +kernel
theorem dX7_grow_33 : decode cX7_grow 33 = .ok (.iadd, 1) := by decide +kernel
theorem dX7_grow_34 : decode cX7_grow 34 = .ok (.aload_n 0, 1) := by decide +kernel
theorem dX7_grow_35 : decode cX7_grow 35 = .ok (.getfield 7, 3) := by decide +kernel
theorem dX7_grow_38 : decode cX7_grow 38 = .ok (.iconst 1, 1) := by decide +kernel
theorem dX7_grow_39 : decode cX7_grow 39 = .ok (.iload_n 1, 1) := by decide +kernel
theorem dX7_grow_40 : decode cX7_grow 40 = .ok (.iadd, 1) := by decide +kernel
theorem dX7_grow_41 : decode cX7_grow 41 = .ok (.iaload, 1) := by decide +kernel
theorem dX7_grow_42 : decode cX7_grow 42 = .ok (.iload_n 2, 1) := by decide +kernel
theorem dX7_grow_43 : decode cX7_grow 43 = .ok (.iadd, 1) := by decide +kernel
theorem dX7_grow_44 : decode cX7_grow 44 = .ok (.bipush 99, 2) := by decide +kernel
theorem dX7_grow_46 : decode cX7_grow 46 = .ok (.if_icmp .le 8, 3) := by decide +kernel
theorem dX7_grow_49 : decode cX7_grow 49 = .ok (.bipush 99, 2) := by decide +kernel
theorem dX7_grow_51 : decode cX7_grow 51 = .ok (.goto 13, 3) := by decide +kernel
theorem dX7_grow_54 : decode cX7_grow 54 = .ok (.aload_n 0, 1) := by decide +kernel
theorem dX7_grow_55 : decode cX7_grow 55 = .ok (.getfield 7, 3) := by decide +kernel
theorem dX7_grow_58 : decode cX7_grow 58 = .ok (.iconst 1, 1) := by decide +kernel
theorem dX7_grow_59 : decode cX7_grow 59 = .ok (.iload_n 1, 1) := by decide +kernel
theorem dX7_grow_60 : decode cX7_grow 60 = .ok (.iadd, 1) := by decide +kernel
theorem dX7_grow_61 : decode cX7_grow 61 = .ok (.iaload, 1) := by decide +kernel
theorem dX7_grow_62 : decode cX7_grow 62 = .ok (.iload_n 2, 1) := by decide +kernel
theorem dX7_grow_63 : decode cX7_grow 63 = .ok (.iadd, 1) := by decide +kernel
theorem dX7_grow_64 : decode cX7_grow 64 = .ok (.iastore, 1) := by decide +kernel
theorem dX7_grow_65 : decode cX7_grow 65 = .ok (.aload_n 0, 1) := by decide +kernel
theorem dX7_grow_66 : decode cX7_grow 66 = .ok (.getfield 7, 3) := by decide +kernel
theorem dX7_grow_69 : decode cX7_grow 69 = .ok (.iconst 1, 1) := by decide +kernel
theorem dX7_grow_70 : decode cX7_grow 70 = .ok (.iload_n 1, 1) := by decide +kernel
theorem dX7_grow_71 : decode cX7_grow 71 = .ok (.iadd, 1) := by decide +kernel
theorem dX7_grow_72 : decode cX7_grow 72 = .ok (.iaload, 1) := by decide +kernel
theorem dX7_grow_73 : decode cX7_grow 73 = .ok (.ireturn, 1) := by decide +kernel
theorem dX7_learn_0 : decode cX7_learn 0 = .ok (.aload_n 0, 1) := by decide +kernel
theorem dX7_learn_1 : decode cX7_learn 1 = .ok (.iload_n 1, 1) := by decide +kernel
theorem dX7_learn_2 : decode cX7_learn 2 = .ok (.invokevirtual 158, 3) := by decide +kernel
theorem dX7_learn_5 : decode cX7_learn 5 = .ok (.ifCond .eq 15, 3) := by decide +kernel
theorem dX7_learn_8 : decode cX7_learn 8 = .ok (.iload_n 2, 1) := by decide +kernel
theorem dX7_learn_9 : decode cX7_learn 9 = .ok (.i2l, 1) := by decide +kernel
theorem dX7_learn_10 : decode cX7_learn 10 = .ok (.lconst 0, 1) := by decide +kernel
theorem dX7_learn_11 : decode cX7_learn 11 = .ok (.ldc2_w 166, 3) := by decide +kernel
theorem dX7_learn_14 : decode cX7_learn 14 = .ok (.invokestatic 45, 3) := by decide +kernel
theorem dX7_learn_17 : decode cX7_learn 17 = .ok (.ifCond .ne 6, 3) := by decide +kernel
theorem dX7_learn_20 : decode cX7_learn 20 = .ok (.ldc 55, 2) := by decide +kernel
theorem dX7_learn_22 : decode cX7_learn 22 = .ok (.ireturn, 1) := by decide +kernel
theorem dX7_learn_23 : decode cX7_learn 23 = .ok (.aload_n 0, 1) := by decide +kernel
theorem dX7_learn_24 : decode cX7_learn 24 = .ok (.invokevirtual 149, 3) := by decide +kernel
theorem dX7_learn_27 : decode cX7_learn 27 = .ok (.aload_n 0, 1) := by decide +kernel
theorem dX7_learn_28 : decode cX7_learn 28 = .ok (.getfield 7, 3) := by decide +kernel
theorem dX7_learn_31 : decode cX7_learn 31 = .ok (.bipush 6, 2) := by decide +kernel
theorem dX7_learn_33 : decode cX7_learn 33 = .ok (.iload_n 1, 1) := by decide +kernel
theorem dX7_learn_34 : decode cX7_learn 34 = .ok (.iadd, 1) := by decide +kernel
theorem dX7_learn_35 : decode cX7_learn 35 = .ok (.iaload, 1) := by decide +kernel
theorem dX7_learn_36 : decode cX7_learn 36 = .ok (.istore_n 3, 1) := by decide +kernel
theorem dX7_learn_37 : decode cX7_learn 37 = .ok (.aload_n 0, 1) := by decide +kernel
theorem dX7_learn_38 : decode cX7_learn 38 = .ok (.getfield 7, 3) := by decide +kernel
theorem dX7_learn_41 : decode cX7_learn 41 = .ok (.bipush 6, 2) := by decide +kernel
theorem dX7_learn_43 : decode cX7_learn 43 = .ok (.iload_n 1, 1) := by decide +kernel
theorem dX7_learn_44 : decode cX7_learn 44 = .ok (.iadd, 1) := by decide +kernel
theorem dX7_learn_45 : decode cX7_learn 45 = .ok (.iload_n 2, 1) := by decide +kernel
theorem dX7_learn_46 : decode cX7_learn 46 = .ok (.iastore, 1) := by decide +kernel
theorem dX7_learn_47 : decode cX7_learn 47 = .ok (.iload_n 3, 1) := by decide +kernel
theorem dX7_learn_48 : decode cX7_learn 48 = .ok (.ireturn, 1) := by decide +kernel
theorem dX7_undo_0 : decode cX7_undo 0 = .ok (.aload_n 0, 1) := by decide +kernel
theorem dX7_undo_1 : decode cX7_undo 1 = .ok (.getfield 123, 3) := by decide +kernel
theorem dX7_undo_4 : decode cX7_undo 4 = .ok (.ifCond .ne 6, 3) := by decide +kernel
theorem dX7_undo_7 : decode cX7_undo 7 = .ok (.ldc 146, 2) := by decide +kernel
theorem dX7_undo_9 : decode cX7_undo 9 = .ok (.ireturn, 1) := by decide +kernel
theorem dX7_undo_10 : decode cX7_undo 10 = .ok (.aload_n 0, 1) := by decide +kernel
theorem dX7_undo_11 : decode cX7_undo 11 = .ok (.dup, 1) := by decide +kernel
theorem dX7_undo_12 : decode cX7_undo 12 = .ok (.getfield 123, 3) := by decide +kernel
theorem dX7_undo_15 : decode cX7_undo 15 = .ok (.iconst 1, 1) := by decide +kernel
theorem dX7_undo_16 : decode cX7_undo 16 = .ok (.isub, 1) := by decide +kernel
theorem dX7_undo_17 : decode cX7_undo 17 = .ok (.putfield 123, 3) := by decide +kernel
theorem dX7_undo_20 : decode cX7_undo 20 = .ok (.iconst 0, 1) := by decide +kernel
theorem dX7_undo_21 : decode cX7_undo 21 = .ok (.istore_n 1, 1) := by decide +kernel
theorem dX7_undo_22 : decode cX7_undo 22 = .ok (.iload_n 1, 1) := by decide +kernel
theorem dX7_undo_23 : decode cX7_undo 23 = .ok (.bipush 18, 2) := by decide +kernel
theorem dX7_undo_25 : decode cX7_undo 25 = .ok (.if_icmp .ge 29, 3) := by decide +kernel
theorem dX7_undo_28 : decode cX7_undo 28 = .ok (.aload_n 0, 1) := by decide +kernel
theorem dX7_undo_29 : decode cX7_undo 29 = .ok (.getfield 7, 3) := by decide +kernel
theorem dX7_undo_32 : decode cX7_undo 32 = .ok (.iload_n 1, 1) := by decide +kernel
theorem dX7_undo_33 : decode cX7_undo 33 = .ok (.aload_n 0, 1) := by decide +kernel
theorem dX7_undo_34 : decode cX7_undo 34 = .ok (.getfield 17, 3) := by decide +kernel
theorem dX7_undo_37 : decode cX7_undo 37 = .ok (.bipush 18, 2) := by decide +kernel
theorem dX7_undo_39 : decode cX7_undo 39 = .ok (.aload_n 0, 1) := by decide +kernel
theorem dX7_undo_40 : decode cX7_undo 40 = .ok (.getfield 123, 3) := by decide +kernel
theorem dX7_undo_43 : decode cX7_undo 43 = .ok (.imul, 1) := by decide +kernel
theorem dX7_undo_44 : decode cX7_undo 44 = .ok (.iload_n 1, 1) := by decide +kernel
theorem dX7_undo_45 : decode cX7_undo 45 = .ok (.iadd, 1) := by decide +kernel
theorem dX7_undo_46 : decode cX7_undo 46 = .ok (.iaload, 1) := by decide +kernel
theorem dX7_undo_47 : decode cX7_undo 47 = .ok (.iastore, 1) := by decide +kernel
theorem dX7_undo_48 : decode cX7_undo 48 = .ok (.iinc 1 1, 3) := by decide +kernel
theorem dX7_undo_51 : decode cX7_undo 51 = .ok (.goto (-29), 3) := by decide +kernel
theorem dX7_undo_54 : decode cX7_undo 54 = .ok (.aload_n 0, 1) := by decide +kernel
theorem dX7_undo_55 : decode cX7_undo 55 = .ok (.getfield 123, 3) := by decide +kernel
theorem dX7_undo_58 : decode cX7_undo 58 = .ok (.ireturn, 1) := by decide +kernel
theorem dX7_client_0 : decode cX7_client 0 = .ok (.aload_n 0, 1) := by decide +kernel
theorem dX7_client_1 : decode cX7_client 1 = .ok (.iload_n 1, 1) := by decide +kernel
theorem dX7_client_2 : decode cX7_client 2 = .ok (.invokevirtual 161, 3) := by decide +kernel
theorem dX7_client_5 : decode cX7_client 5 = .ok (.ifCond .ne 6, 3) := by decide +kernel
theorem dX7_client_8 : decode cX7_client 8 = .ok (.ldc 55, 2) := by decide +kernel
theorem dX7_client_10 : decode cX7_client 10 = .ok (.ireturn, 1) := by decide +kernel
theorem dX7_client_11 : decode cX7_client 11 = .ok (.iload_n 2, 1) := by decide +kernel
theorem dX7_client_12 : decode cX7_client 12 = .ok (.tableswitch 131 0 4 #[36, 45, 55, 73, 123], 36) := by decide +kernel
theorem dX7_client_48 : decode cX7_client 48 = .ok (.aload_n 0, 1) := by decide +kernel
theorem dX7_client_49 : decode cX7_client 49 = .ok (.getfield 7, 3) := by decide +kernel
theorem dX7_client_52 : decode cX7_client 52 = .ok (.iconst 1, 1) := by decide +kernel
theorem dX7_client_53 : decode cX7_client 53 = .ok (.iload_n 1, 1) := by decide +kernel
theorem dX7_client_54 : decode cX7_client 54 = .ok (.iadd, 1) := by decide +kernel
theorem dX7_client_55 : decode cX7_client 55 = .ok (.iaload, 1) := by decide +kernel
theorem dX7_client_56 : decode cX7_client 56 = .ok (.ireturn, 1) := by decide +kernel
theorem dX7_client_57 : decode cX7_client 57 = .ok (.aload_n 0, 1) := by decide +kernel
theorem dX7_client_58 : decode cX7_client 58 = .ok (.getfield 7, 3) := by decide +kernel
theorem dX7_client_61 : decode cX7_client 61 = .ok (.bipush 23, 2) := by decide +kernel
theorem dX7_client_63 : decode cX7_client 63 = .ok (.iload_n 1, 1) := by decide +kernel
theorem dX7_client_64 : decode cX7_client 64 = .ok (.iadd, 1) := by decide +kernel
theorem dX7_client_65 : decode cX7_client 65 = .ok (.iaload, 1) := by decide +kernel
theorem dX7_client_66 : decode cX7_client 66 = .ok (.ireturn, 1) := by decide +kernel
theorem dX7_client_67 : decode cX7_client 67 = .ok (.aload_n 0, 1) := by decide +kernel
theorem dX7_client_68 : decode cX7_client 68 = .ok (.iconst 0, 1) := by decide +kernel
theorem dX7_client_69 : decode cX7_client 69 = .ok (.invokevirtual 155, 3) := by decide +kernel
theorem dX7_client_72 : decode cX7_client 72 = .ok (.iload_n 1, 1) := by decide +kernel
theorem dX7_client_73 : decode cX7_client 73 = .ok (.invokestatic 133, 3) := by decide +kernel
theorem dX7_client_76 : decode cX7_client 76 = .ok (.ifCond .eq 7, 3) := by decide +kernel
theorem dX7_client_79 : decode cX7_client 79 = .ok (.iconst 1, 1) := by decide +kernel
theorem dX7_client_80 : decode cX7_client 80 = .ok (.goto 4, 3) := by decide +kernel
theorem dX7_client_83 : decode cX7_client 83 = .ok (.iconst 0, 1) := by decide +kernel
theorem dX7_client_84 : decode cX7_client 84 = .ok (.ireturn, 1) := by decide +kernel
theorem dX7_client_85 : decode cX7_client 85 = .ok (.iconst 0, 1) := by decide +kernel
theorem dX7_client_86 : decode cX7_client 86 = .ok (.istore_n 3, 1) := by decide +kernel
theorem dX7_client_87 : decode cX7_client 87 = .ok (.iconst 0, 1) := by decide +kernel
theorem dX7_client_88 : decode cX7_client 88 = .ok (.istore 4, 2) := by decide +kernel
theorem dX7_client_90 : decode cX7_client 90 = .ok (.iload 4, 2) := by decide +kernel
theorem dX7_client_92 : decode cX7_client 92 = .ok (.aload_n 0, 1) := by decide +kernel
theorem dX7_client_93 : decode cX7_client 93 = .ok (.getfield 7, 3) := by decide +kernel
theorem dX7_client_96 : decode cX7_client 96 = .ok (.bipush 22, 2) := by decide +kernel
theorem dX7_client_98 : decode cX7_client 98 = .ok (.iaload, 1) := by decide +kernel
theorem dX7_client_99 : decode cX7_client 99 = .ok (.if_icmp .ge 34, 3) := by decide +kernel
theorem dX7_client_102 : decode cX7_client 102 = .ok (.iload_n 3, 1) := by decide +kernel
theorem dX7_client_103 : decode cX7_client 103 = .ok (.aload_n 0, 1) := by decide +kernel
theorem dX7_client_104 : decode cX7_client 104 = .ok (.getfield 7, 3) := by decide +kernel
theorem dX7_client_107 : decode cX7_client 107 = .ok (.bipush 10, 2) := by decide +kernel
theorem dX7_client_109 : decode cX7_client 109 = .ok (.iload 4, 2) := by decide +kernel
theorem dX7_client_111 : decode cX7_client 111 = .ok (.iadd, 1) := by decide +kernel
theorem dX7_client_112 : decode cX7_client 112 = .ok (.iaload, 1) := by decide +kernel
theorem dX7_client_113 : decode cX7_client 113 = .ok (.iload_n 1, 1) := by decide +kernel
theorem dX7_client_114 : decode cX7_client 114 = .ok (.if_icmp .ne 10, 3) := by decide +kernel
theorem dX7_client_117 : decode cX7_client 117 = .ok (.iconst 1, 1) := by decide +kernel
theorem dX7_client_118 : decode cX7_client 118 = .ok (.iload 4, 2) := by decide +kernel
theorem dX7_client_120 : decode cX7_client 120 = .ok (.ishl, 1) := by decide +kernel
theorem dX7_client_121 : decode cX7_client 121 = .ok (.goto 4, 3) := by decide +kernel
theorem dX7_client_124 : decode cX7_client 124 = .ok (.iconst 0, 1) := by decide +kernel
theorem dX7_client_125 : decode cX7_client 125 = .ok (.ior, 1) := by decide +kernel
theorem dX7_client_126 : decode cX7_client 126 = .ok (.istore_n 3, 1) := by decide +kernel
theorem dX7_client_127 : decode cX7_client 127 = .ok (.iinc 4 1, 3) := by decide +kernel
theorem dX7_client_130 : decode cX7_client 130 = .ok (.goto (-40), 3) := by decide +kernel
theorem dX7_client_133 : decode cX7_client 133 = .ok (.iload_n 3, 1) := by decide +kernel
theorem dX7_client_134 : decode cX7_client 134 = .ok (.ireturn, 1) := by decide +kernel
theorem dX7_client_135 : decode cX7_client 135 = .ok (.aload_n 0, 1) := by decide +kernel
theorem dX7_client_136 : decode cX7_client 136 = .ok (.iconst 0, 1) := by decide +kernel
theorem dX7_client_137 : decode cX7_client 137 = .ok (.iload_n 1, 1) := by decide +kernel
theorem dX7_client_138 : decode cX7_client 138 = .ok (.iconst 0, 1) := by decide +kernel
theorem dX7_client_139 : decode cX7_client 139 = .ok (.invokevirtual 139, 3) := by decide +kernel
theorem dX7_client_142 : decode cX7_client 142 = .ok (.ireturn, 1) := by decide +kernel
theorem dX7_client_143 : decode cX7_client 143 = .ok (.ldc 55, 2) := by decide +kernel
theorem dX7_client_145 : decode cX7_client 145 = .ok (.ireturn, 1) := by decide +kernel
theorem dX7_waker_0 : decode cX7_waker 0 = .ok (.aload_n 0, 1) := by decide +kernel
theorem dX7_waker_1 : decode cX7_waker 1 = .ok (.iload_n 1, 1) := by decide +kernel
theorem dX7_waker_2 : decode cX7_waker 2 = .ok (.invokevirtual 158, 3) := by decide +kernel
theorem dX7_waker_5 : decode cX7_waker 5 = .ok (.ifCond .ne 6, 3) := by decide +kernel
theorem dX7_waker_8 : decode cX7_waker 8 = .ok (.ldc 55, 2) := by decide +kernel
theorem dX7_waker_10 : decode cX7_waker 10 = .ok (.ireturn, 1) := by decide +kernel
theorem dX7_waker_11 : decode cX7_waker 11 = .ok (.iload_n 2, 1) := by decide +kernel
theorem dX7_waker_12 : decode cX7_waker 12 = .ok (.tableswitch 83 0 4 #[36, 46, 56, 66, 73], 36) := by decide +kernel
theorem dX7_waker_48 : decode cX7_waker 48 = .ok (.aload_n 0, 1) := by decide +kernel
theorem dX7_waker_49 : decode cX7_waker 49 = .ok (.getfield 7, 3) := by decide +kernel
theorem dX7_waker_52 : decode cX7_waker 52 = .ok (.bipush 32, 2) := by decide +kernel
theorem dX7_waker_54 : decode cX7_waker 54 = .ok (.iload_n 1, 1) := by decide +kernel
theorem dX7_waker_55 : decode cX7_waker 55 = .ok (.iadd, 1) := by decide +kernel
theorem dX7_waker_56 : decode cX7_waker 56 = .ok (.iaload, 1) := by decide +kernel
theorem dX7_waker_57 : decode cX7_waker 57 = .ok (.ireturn, 1) := by decide +kernel
theorem dX7_waker_58 : decode cX7_waker 58 = .ok (.aload_n 0, 1) := by decide +kernel
theorem dX7_waker_59 : decode cX7_waker 59 = .ok (.getfield 7, 3) := by decide +kernel
theorem dX7_waker_62 : decode cX7_waker 62 = .ok (.bipush 6, 2) := by decide +kernel
theorem dX7_waker_64 : decode cX7_waker 64 = .ok (.iload_n 1, 1) := by decide +kernel
theorem dX7_waker_65 : decode cX7_waker 65 = .ok (.iadd, 1) := by decide +kernel
theorem dX7_waker_66 : decode cX7_waker 66 = .ok (.iaload, 1) := by decide +kernel
theorem dX7_waker_67 : decode cX7_waker 67 = .ok (.ireturn, 1) := by decide +kernel
theorem dX7_waker_68 : decode cX7_waker 68 = .ok (.aload_n 0, 1) := by decide +kernel
theorem dX7_waker_69 : decode cX7_waker 69 = .ok (.getfield 7, 3) := by decide +kernel
theorem dX7_waker_72 : decode cX7_waker 72 = .ok (.bipush 10, 2) := by decide +kernel
theorem dX7_waker_74 : decode cX7_waker 74 = .ok (.iload_n 1, 1) := by decide +kernel
theorem dX7_waker_75 : decode cX7_waker 75 = .ok (.iadd, 1) := by decide +kernel
theorem dX7_waker_76 : decode cX7_waker 76 = .ok (.iaload, 1) := by decide +kernel
theorem dX7_waker_77 : decode cX7_waker 77 = .ok (.ireturn, 1) := by decide +kernel
theorem dX7_waker_78 : decode cX7_waker 78 = .ok (.aload_n 0, 1) := by decide +kernel
theorem dX7_waker_79 : decode cX7_waker 79 = .ok (.iconst 0, 1) := by decide +kernel
theorem dX7_waker_80 : decode cX7_waker 80 = .ok (.iload_n 1, 1) := by decide +kernel
theorem dX7_waker_81 : decode cX7_waker 81 = .ok (.invokevirtual 136, 3) := by decide +kernel
theorem dX7_waker_84 : decode cX7_waker 84 = .ok (.ireturn, 1) := by decide +kernel
theorem dX7_waker_85 : decode cX7_waker 85 = .ok (.aload_n 0, 1) := by decide +kernel
theorem dX7_waker_86 : decode cX7_waker 86 = .ok (.getfield 7, 3) := by decide +kernel
theorem dX7_waker_89 : decode cX7_waker 89 = .ok (.bipush 14, 2) := by decide +kernel
theorem dX7_waker_91 : decode cX7_waker 91 = .ok (.iload_n 1, 1) := by decide +kernel
theorem dX7_waker_92 : decode cX7_waker 92 = .ok (.iadd, 1) := by decide +kernel
theorem dX7_waker_93 : decode cX7_waker 93 = .ok (.iaload, 1) := by decide +kernel
theorem dX7_waker_94 : decode cX7_waker 94 = .ok (.ireturn, 1) := by decide +kernel
theorem dX7_waker_95 : decode cX7_waker 95 = .ok (.ldc 55, 2) := by decide +kernel
theorem dX7_waker_97 : decode cX7_waker 97 = .ok (.ireturn, 1) := by decide +kernel
theorem dX7_isSpan_0 : decode cX7_isSpan 0 = .ok (.iload_n 0, 1) := by decide +kernel
theorem dX7_isSpan_1 : decode cX7_isSpan 1 = .ok (.i2l, 1) := by decide +kernel
theorem dX7_isSpan_2 : decode cX7_isSpan 2 = .ok (.lconst 0, 1) := by decide +kernel
theorem dX7_isSpan_3 : decode cX7_isSpan 3 = .ok (.ldc2_w 168, 3) := by decide +kernel
theorem dX7_isSpan_6 : decode cX7_isSpan 6 = .ok (.invokestatic 45, 3) := by decide +kernel
theorem dX7_isSpan_9 : decode cX7_isSpan 9 = .ok (.ireturn, 1) := by decide +kernel
theorem dX7_tries_0 : decode cX7_tries 0 = .ok (.iconst 0, 1) := by decide +kernel
theorem dX7_tries_1 : decode cX7_tries 1 = .ok (.istore_n 2, 1) := by decide +kernel
theorem dX7_tries_2 : decode cX7_tries 2 = .ok (.iload_n 2, 1) := by decide +kernel
theorem dX7_tries_3 : decode cX7_tries 3 = .ok (.iload_n 1, 1) := by decide +kernel
theorem dX7_tries_4 : decode cX7_tries 4 = .ok (.if_icmp .ge 16, 3) := by decide +kernel
theorem dX7_tries_7 : decode cX7_tries 7 = .ok (.aload_n 0, 1) := by decide +kernel
theorem dX7_tries_8 : decode cX7_tries 8 = .ok (.bipush 108, 2) := by decide +kernel
theorem dX7_tries_10 : decode cX7_tries 10 = .ok (.iconst 0, 1) := by decide +kernel
theorem dX7_tries_11 : decode cX7_tries 11 = .ok (.invokevirtual 152, 3) := by decide +kernel
theorem dX7_tries_14 : decode cX7_tries 14 = .ok (.iinc 2 1, 3) := by decide +kernel
theorem dX7_tries_17 : decode cX7_tries 17 = .ok (.goto (-15), 3) := by decide +kernel
theorem dX7_tries_20 : decode cX7_tries 20 = .ok (.return_, 1) := by decide +kernel
theorem dX7_triesFrom_0 : decode cX7_triesFrom 0 = .ok (.aload_n 0, 1) := by decide +kernel
theorem dX7_triesFrom_1 : decode cX7_triesFrom 1 = .ok (.iconst 0, 1) := by decide +kernel
theorem dX7_triesFrom_2 : decode cX7_triesFrom 2 = .ok (.bipush 108, 2) := by decide +kernel
theorem dX7_triesFrom_4 : decode cX7_triesFrom 4 = .ok (.invokevirtual 119, 3) := by decide +kernel
theorem dX7_triesFrom_7 : decode cX7_triesFrom 7 = .ok (.aload_n 0, 1) := by decide +kernel
theorem dX7_triesFrom_8 : decode cX7_triesFrom 8 = .ok (.iload_n 1, 1) := by decide +kernel
theorem dX7_triesFrom_9 : decode cX7_triesFrom 9 = .ok (.invokevirtual 170, 3) := by decide +kernel
theorem dX7_triesFrom_12 : decode cX7_triesFrom 12 = .ok (.return_, 1) := by decide +kernel
theorem dX7_weight_0 : decode cX7_weight 0 = .ok (.aload_n 0, 1) := by decide +kernel
theorem dX7_weight_1 : decode cX7_weight 1 = .ok (.iload_n 1, 1) := by decide +kernel
theorem dX7_weight_2 : decode cX7_weight 2 = .ok (.invokevirtual 161, 3) := by decide +kernel
theorem dX7_weight_5 : decode cX7_weight 5 = .ok (.ifCond .eq 10, 3) := by decide +kernel
theorem dX7_weight_8 : decode cX7_weight 8 = .ok (.iload_n 2, 1) := by decide +kernel
theorem dX7_weight_9 : decode cX7_weight 9 = .ok (.invokestatic 174, 3) := by decide +kernel
theorem dX7_weight_12 : decode cX7_weight 12 = .ok (.ifCond .ne 6, 3) := by decide +kernel
theorem dX7_weight_15 : decode cX7_weight 15 = .ok (.ldc 55, 2) := by decide +kernel
theorem dX7_weight_17 : decode cX7_weight 17 = .ok (.ireturn, 1) := by decide +kernel
theorem dX7_weight_18 : decode cX7_weight 18 = .ok (.aload_n 0, 1) := by decide +kernel
theorem dX7_weight_19 : decode cX7_weight 19 = .ok (.iload_n 2, 1) := by decide +kernel
theorem dX7_weight_20 : decode cX7_weight 20 = .ok (.invokevirtual 177, 3) := by decide +kernel
theorem dX7_weight_23 : decode cX7_weight 23 = .ok (.aload_n 0, 1) := by decide +kernel
theorem dX7_weight_24 : decode cX7_weight 24 = .ok (.getfield 7, 3) := by decide +kernel
theorem dX7_weight_27 : decode cX7_weight 27 = .ok (.bipush 109, 2) := by decide +kernel
theorem dX7_weight_29 : decode cX7_weight 29 = .ok (.iload_n 1, 1) := by decide +kernel
theorem dX7_weight_30 : decode cX7_weight 30 = .ok (.iadd, 1) := by decide +kernel
theorem dX7_weight_31 : decode cX7_weight 31 = .ok (.iaload, 1) := by decide +kernel
theorem dX7_weight_32 : decode cX7_weight 32 = .ok (.ireturn, 1) := by decide +kernel
theorem dX7_earned_0 : decode cX7_earned 0 = .ok (.aload_n 0, 1) := by decide +kernel
theorem dX7_earned_1 : decode cX7_earned 1 = .ok (.iload_n 1, 1) := by decide +kernel
theorem dX7_earned_2 : decode cX7_earned 2 = .ok (.invokevirtual 158, 3) := by decide +kernel
theorem dX7_earned_5 : decode cX7_earned 5 = .ok (.ifCond .eq 10, 3) := by decide +kernel
theorem dX7_earned_8 : decode cX7_earned 8 = .ok (.iload_n 2, 1) := by decide +kernel
theorem dX7_earned_9 : decode cX7_earned 9 = .ok (.invokestatic 174, 3) := by decide +kernel
theorem dX7_earned_12 : decode cX7_earned 12 = .ok (.ifCond .ne 6, 3) := by decide +kernel
theorem dX7_earned_15 : decode cX7_earned 15 = .ok (.ldc 55, 2) := by decide +kernel
theorem dX7_earned_17 : decode cX7_earned 17 = .ok (.ireturn, 1) := by decide +kernel
theorem dX7_earned_18 : decode cX7_earned 18 = .ok (.aload_n 0, 1) := by decide +kernel
theorem dX7_earned_19 : decode cX7_earned 19 = .ok (.iload_n 2, 1) := by decide +kernel
theorem dX7_earned_20 : decode cX7_earned 20 = .ok (.invokevirtual 177, 3) := by decide +kernel
theorem dX7_earned_23 : decode cX7_earned 23 = .ok (.aload_n 0, 1) := by decide +kernel
theorem dX7_earned_24 : decode cX7_earned 24 = .ok (.getfield 7, 3) := by decide +kernel
theorem dX7_earned_27 : decode cX7_earned 27 = .ok (.bipush 122, 2) := by decide +kernel
theorem dX7_earned_29 : decode cX7_earned 29 = .ok (.iload_n 1, 1) := by decide +kernel
theorem dX7_earned_30 : decode cX7_earned 30 = .ok (.iadd, 1) := by decide +kernel
theorem dX7_earned_31 : decode cX7_earned 31 = .ok (.iaload, 1) := by decide +kernel
theorem dX7_earned_32 : decode cX7_earned 32 = .ok (.ireturn, 1) := by decide +kernel
theorem dX7_rests_0 : decode cX7_rests 0 = .ok (.aload_n 0, 1) := by decide +kernel
theorem dX7_rests_1 : decode cX7_rests 1 = .ok (.invokevirtual 143, 3) := by decide +kernel
theorem dX7_rests_4 : decode cX7_rests 4 = .ok (.ifCond .ne 6, 3) := by decide +kernel
theorem dX7_rests_7 : decode cX7_rests 7 = .ok (.ldc 146, 2) := by decide +kernel
theorem dX7_rests_9 : decode cX7_rests 9 = .ok (.ireturn, 1) := by decide +kernel
theorem dX7_rests_10 : decode cX7_rests 10 = .ok (.iload_n 1, 1) := by decide +kernel
theorem dX7_rests_11 : decode cX7_rests 11 = .ok (.invokestatic 174, 3) := by decide +kernel
theorem dX7_rests_14 : decode cX7_rests 14 = .ok (.ifCond .ne 6, 3) := by decide +kernel
theorem dX7_rests_17 : decode cX7_rests 17 = .ok (.ldc 55, 2) := by decide +kernel
theorem dX7_rests_19 : decode cX7_rests 19 = .ok (.ireturn, 1) := by decide +kernel
theorem dX7_rests_20 : decode cX7_rests 20 = .ok (.aload_n 0, 1) := by decide +kernel
theorem dX7_rests_21 : decode cX7_rests 21 = .ok (.iload_n 1, 1) := by decide +kernel
end
section
theorem dX7_rests_22 : decode cX7_rests 22 = .ok (.invokevirtual 177, 3) := by decide +kernel
theorem dX7_rests_25 : decode cX7_rests 25 = .ok (.aload_n 0, 1) := by decide +kernel
theorem dX7_rests_26 : decode cX7_rests 26 = .ok (.bipush 108, 2) := by decide +kernel
theorem dX7_rests_28 : decode cX7_rests 28 = .ok (.invokevirtual 155, 3) := by decide +kernel
theorem dX7_rests_31 : decode cX7_rests 31 = .ok (.ireturn, 1) := by decide +kernel
theorem dX7_firstOf_0 : decode cX7_firstOf 0 = .ok (.aload_n 0, 1) := by decide +kernel
theorem dX7_firstOf_1 : decode cX7_firstOf 1 = .ok (.iconst 0, 1) := by decide +kernel
theorem dX7_firstOf_2 : decode cX7_firstOf 2 = .ok (.bipush 108, 2) := by decide +kernel
theorem dX7_firstOf_4 : decode cX7_firstOf 4 = .ok (.invokevirtual 119, 3) := by decide +kernel
theorem dX7_firstOf_7 : decode cX7_firstOf 7 = .ok (.iconst 0, 1) := by decide +kernel
theorem dX7_firstOf_8 : decode cX7_firstOf 8 = .ok (.istore_n 2, 1) := by decide +kernel
theorem dX7_firstOf_9 : decode cX7_firstOf 9 = .ok (.iload_n 2, 1) := by decide +kernel
theorem dX7_firstOf_10 : decode cX7_firstOf 10 = .ok (.bipush 60, 2) := by decide +kernel
theorem dX7_firstOf_12 : decode cX7_firstOf 12 = .ok (.if_icmp .gt 31, 3) := by decide +kernel
theorem dX7_firstOf_15 : decode cX7_firstOf 15 = .ok (.iload_n 1, 1) := by decide +kernel
theorem dX7_firstOf_16 : decode cX7_firstOf 16 = .ok (.aload_n 0, 1) := by decide +kernel
theorem dX7_firstOf_17 : decode cX7_firstOf 17 = .ok (.bipush 108, 2) := by decide +kernel
theorem dX7_firstOf_19 : decode cX7_firstOf 19 = .ok (.invokevirtual 155, 3) := by decide +kernel
theorem dX7_firstOf_22 : decode cX7_firstOf 22 = .ok (.iconst (-1), 1) := by decide +kernel
theorem dX7_firstOf_23 : decode cX7_firstOf 23 = .ok (.ixor, 1) := by decide +kernel
theorem dX7_firstOf_24 : decode cX7_firstOf 24 = .ok (.iand, 1) := by decide +kernel
theorem dX7_firstOf_25 : decode cX7_firstOf 25 = .ok (.ifCond .ne 5, 3) := by decide +kernel
theorem dX7_firstOf_28 : decode cX7_firstOf 28 = .ok (.iload_n 2, 1) := by decide +kernel
theorem dX7_firstOf_29 : decode cX7_firstOf 29 = .ok (.ireturn, 1) := by decide +kernel
theorem dX7_firstOf_30 : decode cX7_firstOf 30 = .ok (.aload_n 0, 1) := by decide +kernel
theorem dX7_firstOf_31 : decode cX7_firstOf 31 = .ok (.bipush 108, 2) := by decide +kernel
theorem dX7_firstOf_33 : decode cX7_firstOf 33 = .ok (.iconst 0, 1) := by decide +kernel
theorem dX7_firstOf_34 : decode cX7_firstOf 34 = .ok (.invokevirtual 152, 3) := by decide +kernel
theorem dX7_firstOf_37 : decode cX7_firstOf 37 = .ok (.iinc 2 1, 3) := by decide +kernel
theorem dX7_firstOf_40 : decode cX7_firstOf 40 = .ok (.goto (-31), 3) := by decide +kernel
theorem dX7_firstOf_43 : decode cX7_firstOf 43 = .ok (.ldc 180, 2) := by decide +kernel
theorem dX7_firstOf_45 : decode cX7_firstOf 45 = .ok (.ireturn, 1) := by decide +kernel
theorem dX7_when_0 : decode cX7_when 0 = .ok (.aload_n 0, 1) := by decide +kernel
theorem dX7_when_1 : decode cX7_when 1 = .ok (.iload_n 1, 1) := by decide +kernel
theorem dX7_when_2 : decode cX7_when 2 = .ok (.invokevirtual 161, 3) := by decide +kernel
theorem dX7_when_5 : decode cX7_when 5 = .ok (.ifCond .eq 13, 3) := by decide +kernel
theorem dX7_when_8 : decode cX7_when 8 = .ok (.aload_n 0, 1) := by decide +kernel
theorem dX7_when_9 : decode cX7_when 9 = .ok (.iconst 1, 1) := by decide +kernel
theorem dX7_when_10 : decode cX7_when 10 = .ok (.iload_n 1, 1) := by decide +kernel
theorem dX7_when_11 : decode cX7_when 11 = .ok (.ishl, 1) := by decide +kernel
theorem dX7_when_12 : decode cX7_when 12 = .ok (.invokevirtual 181, 3) := by decide +kernel
theorem dX7_when_15 : decode cX7_when 15 = .ok (.goto 5, 3) := by decide +kernel
theorem dX7_when_18 : decode cX7_when 18 = .ok (.ldc 55, 2) := by decide +kernel
theorem dX7_when_20 : decode cX7_when 20 = .ok (.ireturn, 1) := by decide +kernel
theorem dX7_isSet_0 : decode cX7_isSet 0 = .ok (.iload_n 1, 1) := by decide +kernel
theorem dX7_isSet_1 : decode cX7_isSet 1 = .ok (.i2l, 1) := by decide +kernel
theorem dX7_isSet_2 : decode cX7_isSet 2 = .ok (.lconst 0, 1) := by decide +kernel
theorem dX7_isSet_3 : decode cX7_isSet 3 = .ok (.iconst 1, 1) := by decide +kernel
theorem dX7_isSet_4 : decode cX7_isSet 4 = .ok (.aload_n 0, 1) := by decide +kernel
theorem dX7_isSet_5 : decode cX7_isSet 5 = .ok (.getfield 7, 3) := by decide +kernel
theorem dX7_isSet_8 : decode cX7_isSet 8 = .ok (.bipush 21, 2) := by decide +kernel
theorem dX7_isSet_10 : decode cX7_isSet 10 = .ok (.iaload, 1) := by decide +kernel
theorem dX7_isSet_11 : decode cX7_isSet 11 = .ok (.ishl, 1) := by decide +kernel
theorem dX7_isSet_12 : decode cX7_isSet 12 = .ok (.iconst 1, 1) := by decide +kernel
theorem dX7_isSet_13 : decode cX7_isSet 13 = .ok (.isub, 1) := by decide +kernel
theorem dX7_isSet_14 : decode cX7_isSet 14 = .ok (.i2l, 1) := by decide +kernel
theorem dX7_isSet_15 : decode cX7_isSet 15 = .ok (.invokestatic 45, 3) := by decide +kernel
theorem dX7_isSet_18 : decode cX7_isSet 18 = .ok (.ireturn, 1) := by decide +kernel
theorem dX7_all_0 : decode cX7_all 0 = .ok (.aload_n 0, 1) := by decide +kernel
theorem dX7_all_1 : decode cX7_all 1 = .ok (.invokevirtual 143, 3) := by decide +kernel
theorem dX7_all_4 : decode cX7_all 4 = .ok (.ifCond .ne 6, 3) := by decide +kernel
theorem dX7_all_7 : decode cX7_all 7 = .ok (.ldc 146, 2) := by decide +kernel
theorem dX7_all_9 : decode cX7_all 9 = .ok (.ireturn, 1) := by decide +kernel
theorem dX7_all_10 : decode cX7_all 10 = .ok (.aload_n 0, 1) := by decide +kernel
theorem dX7_all_11 : decode cX7_all 11 = .ok (.iload_n 1, 1) := by decide +kernel
theorem dX7_all_12 : decode cX7_all 12 = .ok (.invokevirtual 184, 3) := by decide +kernel
theorem dX7_all_15 : decode cX7_all 15 = .ok (.ifCond .eq 11, 3) := by decide +kernel
theorem dX7_all_18 : decode cX7_all 18 = .ok (.aload_n 0, 1) := by decide +kernel
theorem dX7_all_19 : decode cX7_all 19 = .ok (.iload_n 1, 1) := by decide +kernel
theorem dX7_all_20 : decode cX7_all 20 = .ok (.invokevirtual 181, 3) := by decide +kernel
theorem dX7_all_23 : decode cX7_all 23 = .ok (.goto 5, 3) := by decide +kernel
theorem dX7_all_26 : decode cX7_all 26 = .ok (.ldc 55, 2) := by decide +kernel
theorem dX7_all_28 : decode cX7_all 28 = .ok (.ireturn, 1) := by decide +kernel
theorem dX7_never_0 : decode cX7_never 0 = .ok (.aload_n 0, 1) := by decide +kernel
theorem dX7_never_1 : decode cX7_never 1 = .ok (.invokevirtual 143, 3) := by decide +kernel
theorem dX7_never_4 : decode cX7_never 4 = .ok (.ifCond .ne 6, 3) := by decide +kernel
theorem dX7_never_7 : decode cX7_never 7 = .ok (.ldc 146, 2) := by decide +kernel
theorem dX7_never_9 : decode cX7_never 9 = .ok (.ireturn, 1) := by decide +kernel
theorem dX7_never_10 : decode cX7_never 10 = .ok (.iconst 0, 1) := by decide +kernel
theorem dX7_never_11 : decode cX7_never 11 = .ok (.istore_n 1, 1) := by decide +kernel
theorem dX7_never_12 : decode cX7_never 12 = .ok (.iconst 0, 1) := by decide +kernel
theorem dX7_never_13 : decode cX7_never 13 = .ok (.istore_n 2, 1) := by decide +kernel
theorem dX7_never_14 : decode cX7_never 14 = .ok (.iload_n 2, 1) := by decide +kernel
theorem dX7_never_15 : decode cX7_never 15 = .ok (.aload_n 0, 1) := by decide +kernel
theorem dX7_never_16 : decode cX7_never 16 = .ok (.getfield 7, 3) := by decide +kernel
theorem dX7_never_19 : decode cX7_never 19 = .ok (.bipush 21, 2) := by decide +kernel
theorem dX7_never_21 : decode cX7_never 21 = .ok (.iaload, 1) := by decide +kernel
theorem dX7_never_22 : decode cX7_never 22 = .ok (.if_icmp .ge 31, 3) := by decide +kernel
theorem dX7_never_25 : decode cX7_never 25 = .ok (.iload_n 1, 1) := by decide +kernel
theorem dX7_never_26 : decode cX7_never 26 = .ok (.aload_n 0, 1) := by decide +kernel
theorem dX7_never_27 : decode cX7_never 27 = .ok (.iconst 1, 1) := by decide +kernel
theorem dX7_never_28 : decode cX7_never 28 = .ok (.iload_n 2, 1) := by decide +kernel
theorem dX7_never_29 : decode cX7_never 29 = .ok (.ishl, 1) := by decide +kernel
theorem dX7_never_30 : decode cX7_never 30 = .ok (.invokevirtual 181, 3) := by decide +kernel
theorem dX7_never_33 : decode cX7_never 33 = .ok (.ldc 180, 2) := by decide +kernel
theorem dX7_never_35 : decode cX7_never 35 = .ok (.if_icmp .ne 9, 3) := by decide +kernel
theorem dX7_never_38 : decode cX7_never 38 = .ok (.iconst 1, 1) := by decide +kernel
theorem dX7_never_39 : decode cX7_never 39 = .ok (.iload_n 2, 1) := by decide +kernel
theorem dX7_never_40 : decode cX7_never 40 = .ok (.ishl, 1) := by decide +kernel
theorem dX7_never_41 : decode cX7_never 41 = .ok (.goto 4, 3) := by decide +kernel
theorem dX7_never_44 : decode cX7_never 44 = .ok (.iconst 0, 1) := by decide +kernel
theorem dX7_never_45 : decode cX7_never 45 = .ok (.ior, 1) := by decide +kernel
theorem dX7_never_46 : decode cX7_never 46 = .ok (.istore_n 1, 1) := by decide +kernel
theorem dX7_never_47 : decode cX7_never 47 = .ok (.iinc 2 1, 3) := by decide +kernel
theorem dX7_never_50 : decode cX7_never 50 = .ok (.goto (-36), 3) := by decide +kernel
theorem dX7_never_53 : decode cX7_never 53 = .ok (.iload_n 1, 1) := by decide +kernel
theorem dX7_never_54 : decode cX7_never 54 = .ok (.ireturn, 1) := by decide +kernel
theorem dX7_allLets_0 : decode cX7_allLets 0 = .ok (.iconst 1, 1) := by decide +kernel
theorem dX7_allLets_1 : decode cX7_allLets 1 = .ok (.istore_n 1, 1) := by decide +kernel
theorem dX7_allLets_2 : decode cX7_allLets 2 = .ok (.iconst 0, 1) := by decide +kernel
theorem dX7_allLets_3 : decode cX7_allLets 3 = .ok (.istore_n 2, 1) := by decide +kernel
theorem dX7_allLets_4 : decode cX7_allLets 4 = .ok (.iload_n 2, 1) := by decide +kernel
theorem dX7_allLets_5 : decode cX7_allLets 5 = .ok (.aload_n 0, 1) := by decide +kernel
theorem dX7_allLets_6 : decode cX7_allLets 6 = .ok (.getfield 7, 3) := by decide +kernel
theorem dX7_allLets_9 : decode cX7_allLets 9 = .ok (.bipush 22, 2) := by decide +kernel
theorem dX7_allLets_11 : decode cX7_allLets 11 = .ok (.iaload, 1) := by decide +kernel
theorem dX7_allLets_12 : decode cX7_allLets 12 = .ok (.if_icmp .ge 21, 3) := by decide +kernel
theorem dX7_allLets_15 : decode cX7_allLets 15 = .ok (.iload_n 1, 1) := by decide +kernel
theorem dX7_allLets_16 : decode cX7_allLets 16 = .ok (.aload_n 0, 1) := by decide +kernel
theorem dX7_allLets_17 : decode cX7_allLets 17 = .ok (.getfield 7, 3) := by decide +kernel
theorem dX7_allLets_20 : decode cX7_allLets 20 = .ok (.bipush 21, 2) := by decide +kernel
theorem dX7_allLets_22 : decode cX7_allLets 22 = .ok (.iaload, 1) := by decide +kernel
theorem dX7_allLets_23 : decode cX7_allLets 23 = .ok (.iconst 1, 1) := by decide +kernel
theorem dX7_allLets_24 : decode cX7_allLets 24 = .ok (.iadd, 1) := by decide +kernel
theorem dX7_allLets_25 : decode cX7_allLets 25 = .ok (.imul, 1) := by decide +kernel
theorem dX7_allLets_26 : decode cX7_allLets 26 = .ok (.istore_n 1, 1) := by decide +kernel
theorem dX7_allLets_27 : decode cX7_allLets 27 = .ok (.iinc 2 1, 3) := by decide +kernel
theorem dX7_allLets_30 : decode cX7_allLets 30 = .ok (.goto (-26), 3) := by decide +kernel
theorem dX7_allLets_33 : decode cX7_allLets 33 = .ok (.iload_n 1, 1) := by decide +kernel
theorem dX7_allLets_34 : decode cX7_allLets 34 = .ok (.ireturn, 1) := by decide +kernel
theorem dX7_letBy_0 : decode cX7_letBy 0 = .ok (.iload_n 1, 1) := by decide +kernel
theorem dX7_letBy_1 : decode cX7_letBy 1 = .ok (.istore_n 3, 1) := by decide +kernel
theorem dX7_letBy_2 : decode cX7_letBy 2 = .ok (.aload_n 0, 1) := by decide +kernel
theorem dX7_letBy_3 : decode cX7_letBy 3 = .ok (.getfield 7, 3) := by decide +kernel
theorem dX7_letBy_6 : decode cX7_letBy 6 = .ok (.bipush 22, 2) := by decide +kernel
theorem dX7_letBy_8 : decode cX7_letBy 8 = .ok (.iaload, 1) := by decide +kernel
theorem dX7_letBy_9 : decode cX7_letBy 9 = .ok (.iconst 1, 1) := by decide +kernel
theorem dX7_letBy_10 : decode cX7_letBy 10 = .ok (.isub, 1) := by decide +kernel
theorem dX7_letBy_11 : decode cX7_letBy 11 = .ok (.istore 4, 2) := by decide +kernel
theorem dX7_letBy_13 : decode cX7_letBy 13 = .ok (.iload 4, 2) := by decide +kernel
theorem dX7_letBy_15 : decode cX7_letBy 15 = .ok (.iload_n 2, 1) := by decide +kernel
theorem dX7_letBy_16 : decode cX7_letBy 16 = .ok (.if_icmp .le 21, 3) := by decide +kernel
theorem dX7_letBy_19 : decode cX7_letBy 19 = .ok (.iload_n 3, 1) := by decide +kernel
theorem dX7_letBy_20 : decode cX7_letBy 20 = .ok (.aload_n 0, 1) := by decide +kernel
theorem dX7_letBy_21 : decode cX7_letBy 21 = .ok (.getfield 7, 3) := by decide +kernel
theorem dX7_letBy_24 : decode cX7_letBy 24 = .ok (.bipush 21, 2) := by decide +kernel
theorem dX7_letBy_26 : decode cX7_letBy 26 = .ok (.iaload, 1) := by decide +kernel
theorem dX7_letBy_27 : decode cX7_letBy 27 = .ok (.iconst 1, 1) := by decide +kernel
theorem dX7_letBy_28 : decode cX7_letBy 28 = .ok (.iadd, 1) := by decide +kernel
theorem dX7_letBy_29 : decode cX7_letBy 29 = .ok (.idiv, 1) := by decide +kernel
theorem dX7_letBy_30 : decode cX7_letBy 30 = .ok (.istore_n 3, 1) := by decide +kernel
theorem dX7_letBy_31 : decode cX7_letBy 31 = .ok (.iinc 4 (-1), 3) := by decide +kernel
theorem dX7_letBy_34 : decode cX7_letBy 34 = .ok (.goto (-21), 3) := by decide +kernel
theorem dX7_letBy_37 : decode cX7_letBy 37 = .ok (.iload_n 3, 1) := by decide +kernel
theorem dX7_letBy_38 : decode cX7_letBy 38 = .ok (.aload_n 0, 1) := by decide +kernel
theorem dX7_letBy_39 : decode cX7_letBy 39 = .ok (.getfield 7, 3) := by decide +kernel
theorem dX7_letBy_42 : decode cX7_letBy 42 = .ok (.bipush 21, 2) := by decide +kernel
theorem dX7_letBy_44 : decode cX7_letBy 44 = .ok (.iaload, 1) := by decide +kernel
theorem dX7_letBy_45 : decode cX7_letBy 45 = .ok (.iconst 1, 1) := by decide +kernel
theorem dX7_letBy_46 : decode cX7_letBy 46 = .ok (.iadd, 1) := by decide +kernel
theorem dX7_letBy_47 : decode cX7_letBy 47 = .ok (.irem, 1) := by decide +kernel
theorem dX7_letBy_48 : decode cX7_letBy 48 = .ok (.istore 4, 2) := by decide +kernel
theorem dX7_letBy_50 : decode cX7_letBy 50 = .ok (.iload 4, 2) := by decide +kernel
theorem dX7_letBy_52 : decode cX7_letBy 52 = .ok (.aload_n 0, 1) := by decide +kernel
theorem dX7_letBy_53 : decode cX7_letBy 53 = .ok (.getfield 7, 3) := by decide +kernel
theorem dX7_letBy_56 : decode cX7_letBy 56 = .ok (.bipush 21, 2) := by decide +kernel
theorem dX7_letBy_58 : decode cX7_letBy 58 = .ok (.iaload, 1) := by decide +kernel
theorem dX7_letBy_59 : decode cX7_letBy 59 = .ok (.if_icmp .ne 7, 3) := by decide +kernel
theorem dX7_letBy_62 : decode cX7_letBy 62 = .ok (.iconst 5, 1) := by decide +kernel
theorem dX7_letBy_63 : decode cX7_letBy 63 = .ok (.goto 5, 3) := by decide +kernel
theorem dX7_letBy_66 : decode cX7_letBy 66 = .ok (.iload 4, 2) := by decide +kernel
theorem dX7_letBy_68 : decode cX7_letBy 68 = .ok (.ireturn, 1) := by decide +kernel
theorem dX7_triesLets_0 : decode cX7_triesLets 0 = .ok (.aload_n 0, 1) := by decide +kernel
theorem dX7_triesLets_1 : decode cX7_triesLets 1 = .ok (.iconst 0, 1) := by decide +kernel
theorem dX7_triesLets_2 : decode cX7_triesLets 2 = .ok (.bipush 108, 2) := by decide +kernel
theorem dX7_triesLets_4 : decode cX7_triesLets 4 = .ok (.invokevirtual 119, 3) := by decide +kernel
theorem dX7_triesLets_7 : decode cX7_triesLets 7 = .ok (.iconst 0, 1) := by decide +kernel
theorem dX7_triesLets_8 : decode cX7_triesLets 8 = .ok (.istore_n 3, 1) := by decide +kernel
theorem dX7_triesLets_9 : decode cX7_triesLets 9 = .ok (.iconst 0, 1) := by decide +kernel
theorem dX7_triesLets_10 : decode cX7_triesLets 10 = .ok (.istore 4, 2) := by decide +kernel
theorem dX7_triesLets_12 : decode cX7_triesLets 12 = .ok (.iload 4, 2) := by decide +kernel
theorem dX7_triesLets_14 : decode cX7_triesLets 14 = .ok (.aload_n 0, 1) := by decide +kernel
theorem dX7_triesLets_15 : decode cX7_triesLets 15 = .ok (.getfield 7, 3) := by decide +kernel
theorem dX7_triesLets_18 : decode cX7_triesLets 18 = .ok (.bipush 22, 2) := by decide +kernel
theorem dX7_triesLets_20 : decode cX7_triesLets 20 = .ok (.iaload, 1) := by decide +kernel
theorem dX7_triesLets_21 : decode cX7_triesLets 21 = .ok (.if_icmp .ge 45, 3) := by decide +kernel
theorem dX7_triesLets_24 : decode cX7_triesLets 24 = .ok (.aload_n 0, 1) := by decide +kernel
theorem dX7_triesLets_25 : decode cX7_triesLets 25 = .ok (.getfield 7, 3) := by decide +kernel
theorem dX7_triesLets_28 : decode cX7_triesLets 28 = .ok (.bipush 118, 2) := by decide +kernel
theorem dX7_triesLets_30 : decode cX7_triesLets 30 = .ok (.iload 4, 2) := by decide +kernel
theorem dX7_triesLets_32 : decode cX7_triesLets 32 = .ok (.iadd, 1) := by decide +kernel
theorem dX7_triesLets_33 : decode cX7_triesLets 33 = .ok (.aload_n 0, 1) := by decide +kernel
theorem dX7_triesLets_34 : decode cX7_triesLets 34 = .ok (.iload_n 1, 1) := by decide +kernel
theorem dX7_triesLets_35 : decode cX7_triesLets 35 = .ok (.iload 4, 2) := by decide +kernel
theorem dX7_triesLets_37 : decode cX7_triesLets 37 = .ok (.invokevirtual 187, 3) := by decide +kernel
theorem dX7_triesLets_40 : decode cX7_triesLets 40 = .ok (.iastore, 1) := by decide +kernel
theorem dX7_triesLets_41 : decode cX7_triesLets 41 = .ok (.iload_n 3, 1) := by decide +kernel
theorem dX7_triesLets_42 : decode cX7_triesLets 42 = .ok (.aload_n 0, 1) := by decide +kernel
theorem dX7_triesLets_43 : decode cX7_triesLets 43 = .ok (.iload_n 1, 1) := by decide +kernel
theorem dX7_triesLets_44 : decode cX7_triesLets 44 = .ok (.iload 4, 2) := by decide +kernel
theorem dX7_triesLets_46 : decode cX7_triesLets 46 = .ok (.invokevirtual 187, 3) := by decide +kernel
theorem dX7_triesLets_49 : decode cX7_triesLets 49 = .ok (.iconst 5, 1) := by decide +kernel
theorem dX7_triesLets_50 : decode cX7_triesLets 50 = .ok (.if_icmp .ne 7, 3) := by decide +kernel
theorem dX7_triesLets_53 : decode cX7_triesLets 53 = .ok (.iconst 0, 1) := by decide +kernel
theorem dX7_triesLets_54 : decode cX7_triesLets 54 = .ok (.goto 4, 3) := by decide +kernel
theorem dX7_triesLets_57 : decode cX7_triesLets 57 = .ok (.iconst 1, 1) := by decide +kernel
theorem dX7_triesLets_58 : decode cX7_triesLets 58 = .ok (.iadd, 1) := by decide +kernel
theorem dX7_triesLets_59 : decode cX7_triesLets 59 = .ok (.istore_n 3, 1) := by decide +kernel
theorem dX7_triesLets_60 : decode cX7_triesLets 60 = .ok (.iinc 4 1, 3) := by decide +kernel
theorem dX7_triesLets_63 : decode cX7_triesLets 63 = .ok (.goto (-51), 3) := by decide +kernel
theorem dX7_triesLets_66 : decode cX7_triesLets 66 = .ok (.aload_n 0, 1) := by decide +kernel
theorem dX7_triesLets_67 : decode cX7_triesLets 67 = .ok (.iload_n 2, 1) := by decide +kernel
theorem dX7_triesLets_68 : decode cX7_triesLets 68 = .ok (.invokevirtual 170, 3) := by decide +kernel
theorem dX7_triesLets_71 : decode cX7_triesLets 71 = .ok (.iload_n 3, 1) := by decide +kernel
theorem dX7_triesLets_72 : decode cX7_triesLets 72 = .ok (.ireturn, 1) := by decide +kernel
theorem dX7_weightsIn_0 : decode cX7_weightsIn 0 = .ok (.iconst 0, 1) := by decide +kernel
theorem dX7_weightsIn_1 : decode cX7_weightsIn 1 = .ok (.istore_n 2, 1) := by decide +kernel
theorem dX7_weightsIn_2 : decode cX7_weightsIn 2 = .ok (.iconst 0, 1) := by decide +kernel
theorem dX7_weightsIn_3 : decode cX7_weightsIn 3 = .ok (.istore_n 3, 1) := by decide +kernel
theorem dX7_weightsIn_4 : decode cX7_weightsIn 4 = .ok (.iload_n 3, 1) := by decide +kernel
theorem dX7_weightsIn_5 : decode cX7_weightsIn 5 = .ok (.aload_n 0, 1) := by decide +kernel
theorem dX7_weightsIn_6 : decode cX7_weightsIn 6 = .ok (.getfield 7, 3) := by decide +kernel
theorem dX7_weightsIn_9 : decode cX7_weightsIn 9 = .ok (.iload_n 1, 1) := by decide +kernel
theorem dX7_weightsIn_10 : decode cX7_weightsIn 10 = .ok (.bipush 21, 2) := by decide +kernel
theorem dX7_weightsIn_12 : decode cX7_weightsIn 12 = .ok (.iadd, 1) := by decide +kernel
theorem dX7_weightsIn_13 : decode cX7_weightsIn 13 = .ok (.iaload, 1) := by decide +kernel
theorem dX7_weightsIn_14 : decode cX7_weightsIn 14 = .ok (.if_icmp .ge 22, 3) := by decide +kernel
theorem dX7_weightsIn_17 : decode cX7_weightsIn 17 = .ok (.iload_n 2, 1) := by decide +kernel
theorem dX7_weightsIn_18 : decode cX7_weightsIn 18 = .ok (.aload_n 0, 1) := by decide +kernel
theorem dX7_weightsIn_19 : decode cX7_weightsIn 19 = .ok (.getfield 7, 3) := by decide +kernel
theorem dX7_weightsIn_22 : decode cX7_weightsIn 22 = .ok (.iload_n 1, 1) := by decide +kernel
theorem dX7_weightsIn_23 : decode cX7_weightsIn 23 = .ok (.iconst 1, 1) := by decide +kernel
theorem dX7_weightsIn_24 : decode cX7_weightsIn 24 = .ok (.iadd, 1) := by decide +kernel
theorem dX7_weightsIn_25 : decode cX7_weightsIn 25 = .ok (.iload_n 3, 1) := by decide +kernel
theorem dX7_weightsIn_26 : decode cX7_weightsIn 26 = .ok (.iadd, 1) := by decide +kernel
theorem dX7_weightsIn_27 : decode cX7_weightsIn 27 = .ok (.iaload, 1) := by decide +kernel
theorem dX7_weightsIn_28 : decode cX7_weightsIn 28 = .ok (.iadd, 1) := by decide +kernel
theorem dX7_weightsIn_29 : decode cX7_weightsIn 29 = .ok (.istore_n 2, 1) := by decide +kernel
theorem dX7_weightsIn_30 : decode cX7_weightsIn 30 = .ok (.iinc 3 1, 3) := by decide +kernel
theorem dX7_weightsIn_33 : decode cX7_weightsIn 33 = .ok (.goto (-29), 3) := by decide +kernel
theorem dX7_weightsIn_36 : decode cX7_weightsIn 36 = .ok (.iload_n 2, 1) := by decide +kernel
theorem dX7_weightsIn_37 : decode cX7_weightsIn 37 = .ok (.ireturn, 1) := by decide +kernel
theorem dX7_best_0 : decode cX7_best 0 = .ok (.aload_n 0, 1) := by decide +kernel
theorem dX7_best_1 : decode cX7_best 1 = .ok (.invokevirtual 143, 3) := by decide +kernel
theorem dX7_best_4 : decode cX7_best 4 = .ok (.ifCond .ne 6, 3) := by decide +kernel
theorem dX7_best_7 : decode cX7_best 7 = .ok (.ldc 146, 2) := by decide +kernel
theorem dX7_best_9 : decode cX7_best 9 = .ok (.ireturn, 1) := by decide +kernel
theorem dX7_best_10 : decode cX7_best 10 = .ok (.iload_n 1, 1) := by decide +kernel
theorem dX7_best_11 : decode cX7_best 11 = .ok (.invokestatic 174, 3) := by decide +kernel
theorem dX7_best_14 : decode cX7_best 14 = .ok (.ifCond .eq 17, 3) := by decide +kernel
theorem dX7_best_17 : decode cX7_best 17 = .ok (.iload_n 2, 1) := by decide +kernel
theorem dX7_best_18 : decode cX7_best 18 = .ok (.i2l, 1) := by decide +kernel
theorem dX7_best_19 : decode cX7_best 19 = .ok (.ldc2_w 190, 3) := by decide +kernel
theorem dX7_best_22 : decode cX7_best 22 = .ok (.ldc2_w 192, 3) := by decide +kernel
theorem dX7_best_25 : decode cX7_best 25 = .ok (.invokestatic 45, 3) := by decide +kernel
theorem dX7_best_28 : decode cX7_best 28 = .ok (.ifCond .ne 6, 3) := by decide +kernel
theorem dX7_best_31 : decode cX7_best 31 = .ok (.ldc 55, 2) := by decide +kernel
theorem dX7_best_33 : decode cX7_best 33 = .ok (.ireturn, 1) := by decide +kernel
theorem dX7_best_34 : decode cX7_best 34 = .ok (.iconst 0, 1) := by decide +kernel
theorem dX7_best_35 : decode cX7_best 35 = .ok (.istore_n 3, 1) := by decide +kernel
theorem dX7_best_36 : decode cX7_best 36 = .ok (.iconst (-1), 1) := by decide +kernel
theorem dX7_best_37 : decode cX7_best 37 = .ok (.istore 4, 2) := by decide +kernel
theorem dX7_best_39 : decode cX7_best 39 = .ok (.iconst 0, 1) := by decide +kernel
theorem dX7_best_40 : decode cX7_best 40 = .ok (.istore 5, 2) := by decide +kernel
theorem dX7_best_42 : decode cX7_best 42 = .ok (.iconst 0, 1) := by decide +kernel
theorem dX7_best_43 : decode cX7_best 43 = .ok (.istore 6, 2) := by decide +kernel
theorem dX7_best_45 : decode cX7_best 45 = .ok (.iload 6, 2) := by decide +kernel
theorem dX7_best_47 : decode cX7_best 47 = .ok (.aload_n 0, 1) := by decide +kernel
theorem dX7_best_48 : decode cX7_best 48 = .ok (.invokevirtual 194, 3) := by decide +kernel
theorem dX7_best_51 : decode cX7_best 51 = .ok (.if_icmp .ge 104, 3) := by decide +kernel
theorem dX7_best_54 : decode cX7_best 54 = .ok (.aload_n 0, 1) := by decide +kernel
theorem dX7_best_55 : decode cX7_best 55 = .ok (.iload 6, 2) := by decide +kernel
theorem dX7_best_57 : decode cX7_best 57 = .ok (.iload_n 1, 1) := by decide +kernel
theorem dX7_best_58 : decode cX7_best 58 = .ok (.invokevirtual 198, 3) := by decide +kernel
theorem dX7_best_61 : decode cX7_best 61 = .ok (.pop, 1) := by decide +kernel
theorem dX7_best_62 : decode cX7_best 62 = .ok (.aload_n 0, 1) := by decide +kernel
theorem dX7_best_63 : decode cX7_best 63 = .ok (.bipush 108, 2) := by decide +kernel
theorem dX7_best_65 : decode cX7_best 65 = .ok (.invokevirtual 155, 3) := by decide +kernel
theorem dX7_best_68 : decode cX7_best 68 = .ok (.invokestatic 201, 3) := by decide +kernel
theorem dX7_best_71 : decode cX7_best 71 = .ok (.istore 7, 2) := by decide +kernel
theorem dX7_best_73 : decode cX7_best 73 = .ok (.iload 7, 2) := by decide +kernel
theorem dX7_best_75 : decode cX7_best 75 = .ok (.iload 4, 2) := by decide +kernel
theorem dX7_best_77 : decode cX7_best 77 = .ok (.if_icmp .gt 21, 3) := by decide +kernel
theorem dX7_best_80 : decode cX7_best 80 = .ok (.iload 7, 2) := by decide +kernel
theorem dX7_best_82 : decode cX7_best 82 = .ok (.iload 4, 2) := by decide +kernel
theorem dX7_best_84 : decode cX7_best 84 = .ok (.if_icmp .ne 18, 3) := by decide +kernel
theorem dX7_best_87 : decode cX7_best 87 = .ok (.aload_n 0, 1) := by decide +kernel
theorem dX7_best_88 : decode cX7_best 88 = .ok (.bipush 108, 2) := by decide +kernel
theorem dX7_best_90 : decode cX7_best 90 = .ok (.invokevirtual 204, 3) := by decide +kernel
theorem dX7_best_93 : decode cX7_best 93 = .ok (.iload 5, 2) := by decide +kernel
theorem dX7_best_95 : decode cX7_best 95 = .ok (.if_icmp .ge 7, 3) := by decide +kernel
theorem dX7_best_98 : decode cX7_best 98 = .ok (.iconst 1, 1) := by decide +kernel
theorem dX7_best_99 : decode cX7_best 99 = .ok (.goto 4, 3) := by decide +kernel
theorem dX7_best_102 : decode cX7_best 102 = .ok (.iconst 0, 1) := by decide +kernel
theorem dX7_best_103 : decode cX7_best 103 = .ok (.istore 8, 2) := by decide +kernel
theorem dX7_best_105 : decode cX7_best 105 = .ok (.iload 8, 2) := by decide +kernel
theorem dX7_best_107 : decode cX7_best 107 = .ok (.ifCond .eq 8, 3) := by decide +kernel
theorem dX7_best_110 : decode cX7_best 110 = .ok (.iload 6, 2) := by decide +kernel
theorem dX7_best_112 : decode cX7_best 112 = .ok (.goto 4, 3) := by decide +kernel
theorem dX7_best_115 : decode cX7_best 115 = .ok (.iload_n 3, 1) := by decide +kernel
theorem dX7_best_116 : decode cX7_best 116 = .ok (.istore_n 3, 1) := by decide +kernel
theorem dX7_best_117 : decode cX7_best 117 = .ok (.iload 8, 2) := by decide +kernel
theorem dX7_best_119 : decode cX7_best 119 = .ok (.ifCond .eq 8, 3) := by decide +kernel
theorem dX7_best_122 : decode cX7_best 122 = .ok (.iload 7, 2) := by decide +kernel
theorem dX7_best_124 : decode cX7_best 124 = .ok (.goto 5, 3) := by decide +kernel
theorem dX7_best_127 : decode cX7_best 127 = .ok (.iload 4, 2) := by decide +kernel
theorem dX7_best_129 : decode cX7_best 129 = .ok (.istore 4, 2) := by decide +kernel
theorem dX7_best_131 : decode cX7_best 131 = .ok (.iload 8, 2) := by decide +kernel
theorem dX7_best_133 : decode cX7_best 133 = .ok (.ifCond .eq 12, 3) := by decide +kernel
theorem dX7_best_136 : decode cX7_best 136 = .ok (.aload_n 0, 1) := by decide +kernel
theorem dX7_best_137 : decode cX7_best 137 = .ok (.bipush 108, 2) := by decide +kernel
theorem dX7_best_139 : decode cX7_best 139 = .ok (.invokevirtual 204, 3) := by decide +kernel
theorem dX7_best_142 : decode cX7_best 142 = .ok (.goto 5, 3) := by decide +kernel
theorem dX7_best_145 : decode cX7_best 145 = .ok (.iload 5, 2) := by decide +kernel
theorem dX7_best_147 : decode cX7_best 147 = .ok (.istore 5, 2) := by decide +kernel
theorem dX7_best_149 : decode cX7_best 149 = .ok (.iinc 6 1, 3) := by decide +kernel
theorem dX7_best_152 : decode cX7_best 152 = .ok (.goto (-107), 3) := by decide +kernel
theorem dX7_best_155 : decode cX7_best 155 = .ok (.iload_n 2, 1) := by decide +kernel
theorem dX7_best_156 : decode cX7_best 156 = .ok (.iconst (-1), 1) := by decide +kernel
theorem dX7_best_157 : decode cX7_best 157 = .ok (.if_icmp .ne 8, 3) := by decide +kernel
theorem dX7_best_160 : decode cX7_best 160 = .ok (.iload 4, 2) := by decide +kernel
theorem dX7_best_162 : decode cX7_best 162 = .ok (.goto 36, 3) := by decide +kernel
theorem dX7_best_165 : decode cX7_best 165 = .ok (.iload_n 2, 1) := by decide +kernel
theorem dX7_best_166 : decode cX7_best 166 = .ok (.bipush (-2), 2) := by decide +kernel
theorem dX7_best_168 : decode cX7_best 168 = .ok (.if_icmp .ne 8, 3) := by decide +kernel
theorem dX7_best_171 : decode cX7_best 171 = .ok (.iload 5, 2) := by decide +kernel
theorem dX7_best_173 : decode cX7_best 173 = .ok (.goto 25, 3) := by decide +kernel
theorem dX7_best_176 : decode cX7_best 176 = .ok (.iload_n 2, 1) := by decide +kernel
theorem dX7_best_177 : decode cX7_best 177 = .ok (.aload_n 0, 1) := by decide +kernel
theorem dX7_best_178 : decode cX7_best 178 = .ok (.getfield 7, 3) := by decide +kernel
theorem dX7_best_181 : decode cX7_best 181 = .ok (.bipush 22, 2) := by decide +kernel
theorem dX7_best_183 : decode cX7_best 183 = .ok (.iaload, 1) := by decide +kernel
theorem dX7_best_184 : decode cX7_best 184 = .ok (.if_icmp .ge 12, 3) := by decide +kernel
theorem dX7_best_187 : decode cX7_best 187 = .ok (.aload_n 0, 1) := by decide +kernel
theorem dX7_best_188 : decode cX7_best 188 = .ok (.iload_n 3, 1) := by decide +kernel
theorem dX7_best_189 : decode cX7_best 189 = .ok (.iload_n 2, 1) := by decide +kernel
theorem dX7_best_190 : decode cX7_best 190 = .ok (.invokevirtual 187, 3) := by decide +kernel
theorem dX7_best_193 : decode cX7_best 193 = .ok (.goto 5, 3) := by decide +kernel
theorem dX7_best_196 : decode cX7_best 196 = .ok (.ldc 180, 2) := by decide +kernel
theorem dX7_best_198 : decode cX7_best 198 = .ok (.ireturn, 1) := by decide +kernel
theorem dX7_fewest_0 : decode cX7_fewest 0 = .ok (.aload_n 0, 1) := by decide +kernel
theorem dX7_fewest_1 : decode cX7_fewest 1 = .ok (.invokevirtual 143, 3) := by decide +kernel
theorem dX7_fewest_4 : decode cX7_fewest 4 = .ok (.ifCond .ne 6, 3) := by decide +kernel
theorem dX7_fewest_7 : decode cX7_fewest 7 = .ok (.ldc 146, 2) := by decide +kernel
theorem dX7_fewest_9 : decode cX7_fewest 9 = .ok (.ireturn, 1) := by decide +kernel
theorem dX7_fewest_10 : decode cX7_fewest 10 = .ok (.aload_n 0, 1) := by decide +kernel
theorem dX7_fewest_11 : decode cX7_fewest 11 = .ok (.iload_n 1, 1) := by decide +kernel
theorem dX7_fewest_12 : decode cX7_fewest 12 = .ok (.invokevirtual 184, 3) := by decide +kernel
theorem dX7_fewest_15 : decode cX7_fewest 15 = .ok (.ifCond .eq 24, 3) := by decide +kernel
theorem dX7_fewest_18 : decode cX7_fewest 18 = .ok (.iload_n 2, 1) := by decide +kernel
theorem dX7_fewest_19 : decode cX7_fewest 19 = .ok (.invokestatic 174, 3) := by decide +kernel
theorem dX7_fewest_22 : decode cX7_fewest 22 = .ok (.ifCond .eq 17, 3) := by decide +kernel
theorem dX7_fewest_25 : decode cX7_fewest 25 = .ok (.iload_n 3, 1) := by decide +kernel
theorem dX7_fewest_26 : decode cX7_fewest 26 = .ok (.i2l, 1) := by decide +kernel
theorem dX7_fewest_27 : decode cX7_fewest 27 = .ok (.ldc2_w 207, 3) := by decide +kernel
theorem dX7_fewest_30 : decode cX7_fewest 30 = .ok (.ldc2_w 192, 3) := by decide +kernel
theorem dX7_fewest_33 : decode cX7_fewest 33 = .ok (.invokestatic 45, 3) := by decide +kernel
theorem dX7_fewest_36 : decode cX7_fewest 36 = .ok (.ifCond .ne 6, 3) := by decide +kernel
theorem dX7_fewest_39 : decode cX7_fewest 39 = .ok (.ldc 55, 2) := by decide +kernel
theorem dX7_fewest_41 : decode cX7_fewest 41 = .ok (.ireturn, 1) := by decide +kernel
theorem dX7_fewest_42 : decode cX7_fewest 42 = .ok (.ldc 180, 2) := by decide +kernel
theorem dX7_fewest_44 : decode cX7_fewest 44 = .ok (.istore 4, 2) := by decide +kernel
theorem dX7_fewest_46 : decode cX7_fewest 46 = .ok (.iconst 5, 1) := by decide +kernel
theorem dX7_fewest_47 : decode cX7_fewest 47 = .ok (.istore 5, 2) := by decide +kernel
theorem dX7_fewest_49 : decode cX7_fewest 49 = .ok (.iconst 0, 1) := by decide +kernel
theorem dX7_fewest_50 : decode cX7_fewest 50 = .ok (.istore 6, 2) := by decide +kernel
theorem dX7_fewest_52 : decode cX7_fewest 52 = .ok (.iload 6, 2) := by decide +kernel
theorem dX7_fewest_54 : decode cX7_fewest 54 = .ok (.aload_n 0, 1) := by decide +kernel
theorem dX7_fewest_55 : decode cX7_fewest 55 = .ok (.invokevirtual 194, 3) := by decide +kernel
theorem dX7_fewest_58 : decode cX7_fewest 58 = .ok (.if_icmp .ge 73, 3) := by decide +kernel
theorem dX7_fewest_61 : decode cX7_fewest 61 = .ok (.aload_n 0, 1) := by decide +kernel
theorem dX7_fewest_62 : decode cX7_fewest 62 = .ok (.iload 6, 2) := by decide +kernel
theorem dX7_fewest_64 : decode cX7_fewest 64 = .ok (.iload_n 2, 1) := by decide +kernel
theorem dX7_fewest_65 : decode cX7_fewest 65 = .ok (.invokevirtual 198, 3) := by decide +kernel
theorem dX7_fewest_68 : decode cX7_fewest 68 = .ok (.istore 7, 2) := by decide +kernel
theorem dX7_fewest_70 : decode cX7_fewest 70 = .ok (.iload_n 1, 1) := by decide +kernel
theorem dX7_fewest_71 : decode cX7_fewest 71 = .ok (.aload_n 0, 1) := by decide +kernel
theorem dX7_fewest_72 : decode cX7_fewest 72 = .ok (.bipush 108, 2) := by decide +kernel
theorem dX7_fewest_74 : decode cX7_fewest 74 = .ok (.invokevirtual 155, 3) := by decide +kernel
theorem dX7_fewest_77 : decode cX7_fewest 77 = .ok (.iconst (-1), 1) := by decide +kernel
theorem dX7_fewest_78 : decode cX7_fewest 78 = .ok (.ixor, 1) := by decide +kernel
theorem dX7_fewest_79 : decode cX7_fewest 79 = .ok (.iand, 1) := by decide +kernel
theorem dX7_fewest_80 : decode cX7_fewest 80 = .ok (.ifCond .ne 14, 3) := by decide +kernel
theorem dX7_fewest_83 : decode cX7_fewest 83 = .ok (.iload 7, 2) := by decide +kernel
theorem dX7_fewest_85 : decode cX7_fewest 85 = .ok (.iload 5, 2) := by decide +kernel
theorem dX7_fewest_87 : decode cX7_fewest 87 = .ok (.if_icmp .ge 7, 3) := by decide +kernel
theorem dX7_fewest_90 : decode cX7_fewest 90 = .ok (.iconst 1, 1) := by decide +kernel
theorem dX7_fewest_91 : decode cX7_fewest 91 = .ok (.goto 4, 3) := by decide +kernel
theorem dX7_fewest_94 : decode cX7_fewest 94 = .ok (.iconst 0, 1) := by decide +kernel
theorem dX7_fewest_95 : decode cX7_fewest 95 = .ok (.istore 8, 2) := by decide +kernel
theorem dX7_fewest_97 : decode cX7_fewest 97 = .ok (.iload 8, 2) := by decide +kernel
theorem dX7_fewest_99 : decode cX7_fewest 99 = .ok (.ifCond .eq 8, 3) := by decide +kernel
theorem dX7_fewest_102 : decode cX7_fewest 102 = .ok (.iload 6, 2) := by decide +kernel
theorem dX7_fewest_104 : decode cX7_fewest 104 = .ok (.goto 5, 3) := by decide +kernel
theorem dX7_fewest_107 : decode cX7_fewest 107 = .ok (.iload 4, 2) := by decide +kernel
theorem dX7_fewest_109 : decode cX7_fewest 109 = .ok (.istore 4, 2) := by decide +kernel
theorem dX7_fewest_111 : decode cX7_fewest 111 = .ok (.iload 8, 2) := by decide +kernel
theorem dX7_fewest_113 : decode cX7_fewest 113 = .ok (.ifCond .eq 8, 3) := by decide +kernel
theorem dX7_fewest_116 : decode cX7_fewest 116 = .ok (.iload 7, 2) := by decide +kernel
theorem dX7_fewest_118 : decode cX7_fewest 118 = .ok (.goto 5, 3) := by decide +kernel
theorem dX7_fewest_121 : decode cX7_fewest 121 = .ok (.iload 5, 2) := by decide +kernel
theorem dX7_fewest_123 : decode cX7_fewest 123 = .ok (.istore 5, 2) := by decide +kernel
theorem dX7_fewest_125 : decode cX7_fewest 125 = .ok (.iinc 6 1, 3) := by decide +kernel
theorem dX7_fewest_128 : decode cX7_fewest 128 = .ok (.goto (-76), 3) := by decide +kernel
theorem dX7_fewest_131 : decode cX7_fewest 131 = .ok (.iload 4, 2) := by decide +kernel
theorem dX7_fewest_133 : decode cX7_fewest 133 = .ok (.ldc 180, 2) := by decide +kernel
theorem dX7_fewest_135 : decode cX7_fewest 135 = .ok (.if_icmp .ne 8, 3) := by decide +kernel
theorem dX7_fewest_138 : decode cX7_fewest 138 = .ok (.ldc 180, 2) := by decide +kernel
theorem dX7_fewest_140 : decode cX7_fewest 140 = .ok (.goto 36, 3) := by decide +kernel
theorem dX7_fewest_143 : decode cX7_fewest 143 = .ok (.iload_n 3, 1) := by decide +kernel
theorem dX7_fewest_144 : decode cX7_fewest 144 = .ok (.iconst (-1), 1) := by decide +kernel
theorem dX7_fewest_145 : decode cX7_fewest 145 = .ok (.if_icmp .ne 8, 3) := by decide +kernel
theorem dX7_fewest_148 : decode cX7_fewest 148 = .ok (.iload 5, 2) := by decide +kernel
theorem dX7_fewest_150 : decode cX7_fewest 150 = .ok (.goto 26, 3) := by decide +kernel
theorem dX7_fewest_153 : decode cX7_fewest 153 = .ok (.iload_n 3, 1) := by decide +kernel
theorem dX7_fewest_154 : decode cX7_fewest 154 = .ok (.aload_n 0, 1) := by decide +kernel
theorem dX7_fewest_155 : decode cX7_fewest 155 = .ok (.getfield 7, 3) := by decide +kernel
theorem dX7_fewest_158 : decode cX7_fewest 158 = .ok (.bipush 22, 2) := by decide +kernel
theorem dX7_fewest_160 : decode cX7_fewest 160 = .ok (.iaload, 1) := by decide +kernel
theorem dX7_fewest_161 : decode cX7_fewest 161 = .ok (.if_icmp .ge 13, 3) := by decide +kernel
theorem dX7_fewest_164 : decode cX7_fewest 164 = .ok (.aload_n 0, 1) := by decide +kernel
theorem dX7_fewest_165 : decode cX7_fewest 165 = .ok (.iload 4, 2) := by decide +kernel
theorem dX7_fewest_167 : decode cX7_fewest 167 = .ok (.iload_n 3, 1) := by decide +kernel
theorem dX7_fewest_168 : decode cX7_fewest 168 = .ok (.invokevirtual 187, 3) := by decide +kernel
theorem dX7_fewest_171 : decode cX7_fewest 171 = .ok (.goto 5, 3) := by decide +kernel
theorem dX7_fewest_174 : decode cX7_fewest 174 = .ok (.ldc 180, 2) := by decide +kernel
theorem dX7_fewest_176 : decode cX7_fewest 176 = .ok (.ireturn, 1) := by decide +kernel
theorem dX7_isSo_0 : decode cX7_isSo 0 = .ok (.iconst 1, 1) := by decide +kernel
theorem dX7_isSo_1 : decode cX7_isSo 1 = .ok (.istore_n 3, 1) := by decide +kernel
theorem dX7_isSo_2 : decode cX7_isSo 2 = .ok (.iconst 0, 1) := by decide +kernel
theorem dX7_isSo_3 : decode cX7_isSo 3 = .ok (.istore 4, 2) := by decide +kernel
theorem dX7_isSo_5 : decode cX7_isSo 5 = .ok (.iload 4, 2) := by decide +kernel
theorem dX7_isSo_7 : decode cX7_isSo 7 = .ok (.iload_n 2, 1) := by decide +kernel
theorem dX7_isSo_8 : decode cX7_isSo 8 = .ok (.if_icmp .ge 44, 3) := by decide +kernel
theorem dX7_isSo_11 : decode cX7_isSo 11 = .ok (.aload_n 0, 1) := by decide +kernel
theorem dX7_isSo_12 : decode cX7_isSo 12 = .ok (.bipush 108, 2) := by decide +kernel
theorem dX7_isSo_14 : decode cX7_isSo 14 = .ok (.iconst 0, 1) := by decide +kernel
theorem dX7_isSo_15 : decode cX7_isSo 15 = .ok (.invokevirtual 152, 3) := by decide +kernel
theorem dX7_isSo_18 : decode cX7_isSo 18 = .ok (.iload_n 3, 1) := by decide +kernel
theorem dX7_isSo_19 : decode cX7_isSo 19 = .ok (.ifCond .eq 25, 3) := by decide +kernel
theorem dX7_isSo_22 : decode cX7_isSo 22 = .ok (.aload_n 0, 1) := by decide +kernel
theorem dX7_isSo_23 : decode cX7_isSo 23 = .ok (.bipush 108, 2) := by decide +kernel
theorem dX7_isSo_25 : decode cX7_isSo 25 = .ok (.invokevirtual 155, 3) := by decide +kernel
theorem dX7_isSo_28 : decode cX7_isSo 28 = .ok (.aload_n 0, 1) := by decide +kernel
theorem dX7_isSo_29 : decode cX7_isSo 29 = .ok (.getfield 20, 3) := by decide +kernel
theorem dX7_isSo_32 : decode cX7_isSo 32 = .ok (.iload_n 1, 1) := by decide +kernel
theorem dX7_isSo_33 : decode cX7_isSo 33 = .ok (.iload 4, 2) := by decide +kernel
theorem dX7_isSo_35 : decode cX7_isSo 35 = .ok (.iadd, 1) := by decide +kernel
theorem dX7_isSo_36 : decode cX7_isSo 36 = .ok (.iaload, 1) := by decide +kernel
theorem dX7_isSo_37 : decode cX7_isSo 37 = .ok (.if_icmp .ne 7, 3) := by decide +kernel
theorem dX7_isSo_40 : decode cX7_isSo 40 = .ok (.iconst 1, 1) := by decide +kernel
theorem dX7_isSo_41 : decode cX7_isSo 41 = .ok (.goto 4, 3) := by decide +kernel
theorem dX7_isSo_44 : decode cX7_isSo 44 = .ok (.iconst 0, 1) := by decide +kernel
theorem dX7_isSo_45 : decode cX7_isSo 45 = .ok (.istore_n 3, 1) := by decide +kernel
theorem dX7_isSo_46 : decode cX7_isSo 46 = .ok (.iinc 4 1, 3) := by decide +kernel
theorem dX7_isSo_49 : decode cX7_isSo 49 = .ok (.goto (-44), 3) := by decide +kernel
theorem dX7_isSo_52 : decode cX7_isSo 52 = .ok (.iload_n 3, 1) := by decide +kernel
theorem dX7_isSo_53 : decode cX7_isSo 53 = .ok (.ireturn, 1) := by decide +kernel
theorem dX7_fits_0 : decode cX7_fits 0 = .ok (.aload_n 0, 1) := by decide +kernel
theorem dX7_fits_1 : decode cX7_fits 1 = .ok (.iload_n 1, 1) := by decide +kernel
theorem dX7_fits_2 : decode cX7_fits 2 = .ok (.invokevirtual 158, 3) := by decide +kernel
theorem dX7_fits_5 : decode cX7_fits 5 = .ok (.ifCond .eq 36, 3) := by decide +kernel
theorem dX7_fits_8 : decode cX7_fits 8 = .ok (.iload_n 2, 1) := by decide +kernel
theorem dX7_fits_9 : decode cX7_fits 9 = .ok (.invokestatic 49, 3) := by decide +kernel
theorem dX7_fits_12 : decode cX7_fits 12 = .ok (.ifCond .eq 29, 3) := by decide +kernel
theorem dX7_fits_15 : decode cX7_fits 15 = .ok (.iload 4, 2) := by decide +kernel
theorem dX7_fits_17 : decode cX7_fits 17 = .ok (.i2l, 1) := by decide +kernel
theorem dX7_fits_18 : decode cX7_fits 18 = .ok (.lconst 1, 1) := by decide +kernel
theorem dX7_fits_19 : decode cX7_fits 19 = .ok (.ldc2_w 209, 3) := by decide +kernel
theorem dX7_fits_22 : decode cX7_fits 22 = .ok (.invokestatic 45, 3) := by decide +kernel
theorem dX7_fits_25 : decode cX7_fits 25 = .ok (.ifCond .eq 16, 3) := by decide +kernel
theorem dX7_fits_28 : decode cX7_fits 28 = .ok (.iload 5, 2) := by decide +kernel
theorem dX7_fits_30 : decode cX7_fits 30 = .ok (.i2l, 1) := by decide +kernel
theorem dX7_fits_31 : decode cX7_fits 31 = .ok (.lconst 0, 1) := by decide +kernel
theorem dX7_fits_32 : decode cX7_fits 32 = .ok (.ldc2_w 53, 3) := by decide +kernel
theorem dX7_fits_35 : decode cX7_fits 35 = .ok (.invokestatic 45, 3) := by decide +kernel
theorem dX7_fits_38 : decode cX7_fits 38 = .ok (.ifCond .ne 6, 3) := by decide +kernel
theorem dX7_fits_41 : decode cX7_fits 41 = .ok (.ldc 55, 2) := by decide +kernel
theorem dX7_fits_43 : decode cX7_fits 43 = .ok (.ireturn, 1) := by decide +kernel
theorem dX7_fits_44 : decode cX7_fits 44 = .ok (.aload_n 0, 1) := by decide +kernel
theorem dX7_fits_45 : decode cX7_fits 45 = .ok (.iload_n 2, 1) := by decide +kernel
theorem dX7_fits_46 : decode cX7_fits 46 = .ok (.iload_n 3, 1) := by decide +kernel
theorem dX7_fits_47 : decode cX7_fits 47 = .ok (.iload 4, 2) := by decide +kernel
theorem dX7_fits_49 : decode cX7_fits 49 = .ok (.invokevirtual 211, 3) := by decide +kernel
theorem dX7_fits_52 : decode cX7_fits 52 = .ok (.istore 6, 2) := by decide +kernel
theorem dX7_fits_54 : decode cX7_fits 54 = .ok (.iload 6, 2) := by decide +kernel
theorem dX7_fits_56 : decode cX7_fits 56 = .ok (.ifCond .ge 6, 3) := by decide +kernel
theorem dX7_fits_59 : decode cX7_fits 59 = .ok (.iload 6, 2) := by decide +kernel
theorem dX7_fits_61 : decode cX7_fits 61 = .ok (.ireturn, 1) := by decide +kernel
theorem dX7_fits_62 : decode cX7_fits 62 = .ok (.bipush 40, 2) := by decide +kernel
theorem dX7_fits_64 : decode cX7_fits 64 = .ok (.iload_n 2, 1) := by decide +kernel
theorem dX7_fits_65 : decode cX7_fits 65 = .ok (.imul, 1) := by decide +kernel
theorem dX7_fits_66 : decode cX7_fits 66 = .ok (.iload_n 3, 1) := by decide +kernel
theorem dX7_fits_67 : decode cX7_fits 67 = .ok (.iadd, 1) := by decide +kernel
theorem dX7_fits_68 : decode cX7_fits 68 = .ok (.istore 7, 2) := by decide +kernel
theorem dX7_fits_70 : decode cX7_fits 70 = .ok (.iconst 0, 1) := by decide +kernel
theorem dX7_fits_71 : decode cX7_fits 71 = .ok (.istore 8, 2) := by decide +kernel
theorem dX7_fits_73 : decode cX7_fits 73 = .ok (.iload 5, 2) := by decide +kernel
theorem dX7_fits_75 : decode cX7_fits 75 = .ok (.ifCond .ne 8, 3) := by decide +kernel
theorem dX7_fits_78 : decode cX7_fits 78 = .ok (.bipush 10, 2) := by decide +kernel
theorem dX7_fits_80 : decode cX7_fits 80 = .ok (.goto 16, 3) := by decide +kernel
theorem dX7_fits_83 : decode cX7_fits 83 = .ok (.iload 5, 2) := by decide +kernel
theorem dX7_fits_85 : decode cX7_fits 85 = .ok (.iconst 1, 1) := by decide +kernel
theorem dX7_fits_86 : decode cX7_fits 86 = .ok (.if_icmp .ne 8, 3) := by decide +kernel
theorem dX7_fits_89 : decode cX7_fits 89 = .ok (.bipush 28, 2) := by decide +kernel
theorem dX7_fits_91 : decode cX7_fits 91 = .ok (.goto 5, 3) := by decide +kernel
theorem dX7_fits_94 : decode cX7_fits 94 = .ok (.bipush 6, 2) := by decide +kernel
theorem dX7_fits_96 : decode cX7_fits 96 = .ok (.istore 9, 2) := by decide +kernel
theorem dX7_fits_98 : decode cX7_fits 98 = .ok (.iload 5, 2) := by decide +kernel
theorem dX7_fits_100 : decode cX7_fits 100 = .ok (.iconst 1, 1) := by decide +kernel
theorem dX7_fits_101 : decode cX7_fits 101 = .ok (.if_icmp .ne 7, 3) := by decide +kernel
theorem dX7_fits_104 : decode cX7_fits 104 = .ok (.iconst 1, 1) := by decide +kernel
theorem dX7_fits_105 : decode cX7_fits 105 = .ok (.goto 4, 3) := by decide +kernel
theorem dX7_fits_108 : decode cX7_fits 108 = .ok (.iconst 0, 1) := by decide +kernel
theorem dX7_fits_109 : decode cX7_fits 109 = .ok (.istore 10, 2) := by decide +kernel
theorem dX7_fits_111 : decode cX7_fits 111 = .ok (.iload 10, 2) := by decide +kernel
theorem dX7_fits_113 : decode cX7_fits 113 = .ok (.bipush 6, 2) := by decide +kernel
theorem dX7_fits_115 : decode cX7_fits 115 = .ok (.if_icmp .ge 86, 3) := by decide +kernel
theorem dX7_fits_118 : decode cX7_fits 118 = .ok (.aload_n 0, 1) := by decide +kernel
theorem dX7_fits_119 : decode cX7_fits 119 = .ok (.iconst 0, 1) := by decide +kernel
theorem dX7_fits_120 : decode cX7_fits 120 = .ok (.bipush 108, 2) := by decide +kernel
theorem dX7_fits_122 : decode cX7_fits 122 = .ok (.invokevirtual 119, 3) := by decide +kernel
theorem dX7_fits_125 : decode cX7_fits 125 = .ok (.aload_n 0, 1) := by decide +kernel
theorem dX7_fits_126 : decode cX7_fits 126 = .ok (.getfield 7, 3) := by decide +kernel
theorem dX7_fits_129 : decode cX7_fits 129 = .ok (.bipush 108, 2) := by decide +kernel
theorem dX7_fits_131 : decode cX7_fits 131 = .ok (.iload 9, 2) := by decide +kernel
theorem dX7_fits_133 : decode cX7_fits 133 = .ok (.iadd, 1) := by decide +kernel
theorem dX7_fits_134 : decode cX7_fits 134 = .ok (.iload_n 1, 1) := by decide +kernel
theorem dX7_fits_135 : decode cX7_fits 135 = .ok (.iadd, 1) := by decide +kernel
theorem dX7_fits_136 : decode cX7_fits 136 = .ok (.iload 10, 2) := by decide +kernel
theorem dX7_fits_138 : decode cX7_fits 138 = .ok (.iastore, 1) := by decide +kernel
theorem dX7_fits_139 : decode cX7_fits 139 = .ok (.iload 5, 2) := by decide +kernel
theorem dX7_fits_141 : decode cX7_fits 141 = .ok (.ifCond .ne 18, 3) := by decide +kernel
theorem dX7_fits_144 : decode cX7_fits 144 = .ok (.iload 10, 2) := by decide +kernel
theorem dX7_fits_146 : decode cX7_fits 146 = .ok (.iconst 5, 1) := by decide +kernel
theorem dX7_fits_147 : decode cX7_fits 147 = .ok (.if_icmp .eq 12, 3) := by decide +kernel
theorem dX7_fits_150 : decode cX7_fits 150 = .ok (.aload_n 0, 1) := by decide +kernel
theorem dX7_fits_151 : decode cX7_fits 151 = .ok (.iload 10, 2) := by decide +kernel
theorem dX7_fits_153 : decode cX7_fits 153 = .ok (.invokevirtual 161, 3) := by decide +kernel
theorem dX7_fits_156 : decode cX7_fits 156 = .ok (.ifCond .eq 7, 3) := by decide +kernel
theorem dX7_fits_159 : decode cX7_fits 159 = .ok (.iconst 1, 1) := by decide +kernel
theorem dX7_fits_160 : decode cX7_fits 160 = .ok (.goto 4, 3) := by decide +kernel
theorem dX7_fits_163 : decode cX7_fits 163 = .ok (.iconst 0, 1) := by decide +kernel
theorem dX7_fits_164 : decode cX7_fits 164 = .ok (.istore 11, 2) := by decide +kernel
theorem dX7_fits_166 : decode cX7_fits 166 = .ok (.iload 8, 2) := by decide +kernel
theorem dX7_fits_168 : decode cX7_fits 168 = .ok (.iload 11, 2) := by decide +kernel
theorem dX7_fits_170 : decode cX7_fits 170 = .ok (.ifCond .eq 21, 3) := by decide +kernel
theorem dX7_fits_173 : decode cX7_fits 173 = .ok (.aload_n 0, 1) := by decide +kernel
theorem dX7_fits_174 : decode cX7_fits 174 = .ok (.iload 7, 2) := by decide +kernel
theorem dX7_fits_176 : decode cX7_fits 176 = .ok (.iload 4, 2) := by decide +kernel
theorem dX7_fits_178 : decode cX7_fits 178 = .ok (.invokevirtual 214, 3) := by decide +kernel
theorem dX7_fits_181 : decode cX7_fits 181 = .ok (.ifCond .eq 10, 3) := by decide +kernel
theorem dX7_fits_184 : decode cX7_fits 184 = .ok (.iconst 1, 1) := by decide +kernel
theorem dX7_fits_185 : decode cX7_fits 185 = .ok (.iload 10, 2) := by decide +kernel
theorem dX7_fits_187 : decode cX7_fits 187 = .ok (.ishl, 1) := by decide +kernel
theorem dX7_fits_188 : decode cX7_fits 188 = .ok (.goto 4, 3) := by decide +kernel
theorem dX7_fits_191 : decode cX7_fits 191 = .ok (.iconst 0, 1) := by decide +kernel
theorem dX7_fits_192 : decode cX7_fits 192 = .ok (.ior, 1) := by decide +kernel
theorem dX7_fits_193 : decode cX7_fits 193 = .ok (.istore 8, 2) := by decide +kernel
theorem dX7_fits_195 : decode cX7_fits 195 = .ok (.iinc 10 1, 3) := by decide +kernel
theorem dX7_fits_198 : decode cX7_fits 198 = .ok (.goto (-87), 3) := by decide +kernel
theorem dX7_fits_201 : decode cX7_fits 201 = .ok (.aload_n 0, 1) := by decide +kernel
theorem dX7_fits_202 : decode cX7_fits 202 = .ok (.iload 8, 2) := by decide +kernel
theorem dX7_fits_204 : decode cX7_fits 204 = .ok (.invokevirtual 60, 3) := by decide +kernel
theorem dX7_fits_207 : decode cX7_fits 207 = .ok (.ireturn, 1) := by decide +kernel
theorem dX7_nods_0 : decode cX7_nods 0 = .ok (.aload_n 0, 1) := by decide +kernel
theorem dX7_nods_1 : decode cX7_nods 1 = .ok (.invokevirtual 143, 3) := by decide +kernel
theorem dX7_nods_4 : decode cX7_nods 4 = .ok (.ifCond .ne 6, 3) := by decide +kernel
theorem dX7_nods_7 : decode cX7_nods 7 = .ok (.ldc 146, 2) := by decide +kernel
theorem dX7_nods_9 : decode cX7_nods 9 = .ok (.ireturn, 1) := by decide +kernel
theorem dX7_nods_10 : decode cX7_nods 10 = .ok (.iload_n 1, 1) := by decide +kernel
theorem dX7_nods_11 : decode cX7_nods 11 = .ok (.i2l, 1) := by decide +kernel
theorem dX7_nods_12 : decode cX7_nods 12 = .ok (.lconst 0, 1) := by decide +kernel
theorem dX7_nods_13 : decode cX7_nods 13 = .ok (.ldc2_w 166, 3) := by decide +kernel
theorem dX7_nods_16 : decode cX7_nods 16 = .ok (.invokestatic 45, 3) := by decide +kernel
theorem dX7_nods_19 : decode cX7_nods 19 = .ok (.ifCond .eq 25, 3) := by decide +kernel
theorem dX7_nods_22 : decode cX7_nods 22 = .ok (.iload_n 2, 1) := by decide +kernel
theorem dX7_nods_23 : decode cX7_nods 23 = .ok (.i2l, 1) := by decide +kernel
theorem dX7_nods_24 : decode cX7_nods 24 = .ok (.lconst 0, 1) := by decide +kernel
theorem dX7_nods_25 : decode cX7_nods 25 = .ok (.ldc2_w 217, 3) := by decide +kernel
theorem dX7_nods_28 : decode cX7_nods 28 = .ok (.invokestatic 45, 3) := by decide +kernel
theorem dX7_nods_31 : decode cX7_nods 31 = .ok (.ifCond .eq 13, 3) := by decide +kernel
theorem dX7_nods_34 : decode cX7_nods 34 = .ok (.iload_n 3, 1) := by decide +kernel
theorem dX7_nods_35 : decode cX7_nods 35 = .ok (.i2l, 1) := by decide +kernel
theorem dX7_nods_36 : decode cX7_nods 36 = .ok (.lconst 0, 1) := by decide +kernel
theorem dX7_nods_37 : decode cX7_nods 37 = .ok (.lconst 1, 1) := by decide +kernel
theorem dX7_nods_38 : decode cX7_nods 38 = .ok (.invokestatic 45, 3) := by decide +kernel
theorem dX7_nods_41 : decode cX7_nods 41 = .ok (.ifCond .ne 6, 3) := by decide +kernel
theorem dX7_nods_44 : decode cX7_nods 44 = .ok (.ldc 55, 2) := by decide +kernel
theorem dX7_nods_46 : decode cX7_nods 46 = .ok (.ireturn, 1) := by decide +kernel
theorem dX7_nods_47 : decode cX7_nods 47 = .ok (.iconst 0, 1) := by decide +kernel
theorem dX7_nods_48 : decode cX7_nods 48 = .ok (.istore 4, 2) := by decide +kernel
theorem dX7_nods_50 : decode cX7_nods 50 = .ok (.iconst 1, 1) := by decide +kernel
theorem dX7_nods_51 : decode cX7_nods 51 = .ok (.istore 5, 2) := by decide +kernel
theorem dX7_nods_53 : decode cX7_nods 53 = .ok (.iconst 0, 1) := by decide +kernel
theorem dX7_nods_54 : decode cX7_nods 54 = .ok (.istore 6, 2) := by decide +kernel
theorem dX7_nods_56 : decode cX7_nods 56 = .ok (.iload 6, 2) := by decide +kernel
theorem dX7_nods_58 : decode cX7_nods 58 = .ok (.aload_n 0, 1) := by decide +kernel
theorem dX7_nods_59 : decode cX7_nods 59 = .ok (.getfield 7, 3) := by decide +kernel
theorem dX7_nods_62 : decode cX7_nods 62 = .ok (.bipush 22, 2) := by decide +kernel
theorem dX7_nods_64 : decode cX7_nods 64 = .ok (.iaload, 1) := by decide +kernel
theorem dX7_nods_65 : decode cX7_nods 65 = .ok (.if_icmp .ge 16, 3) := by decide +kernel
theorem dX7_nods_68 : decode cX7_nods 68 = .ok (.iload 5, 2) := by decide +kernel
theorem dX7_nods_70 : decode cX7_nods 70 = .ok (.bipush 10, 2) := by decide +kernel
theorem dX7_nods_72 : decode cX7_nods 72 = .ok (.imul, 1) := by decide +kernel
theorem dX7_nods_73 : decode cX7_nods 73 = .ok (.istore 5, 2) := by decide +kernel
theorem dX7_nods_75 : decode cX7_nods 75 = .ok (.iinc 6 1, 3) := by decide +kernel
theorem dX7_nods_78 : decode cX7_nods 78 = .ok (.goto (-22), 3) := by decide +kernel
theorem dX7_nods_81 : decode cX7_nods 81 = .ok (.iconst 0, 1) := by decide +kernel
theorem dX7_nods_82 : decode cX7_nods 82 = .ok (.istore 6, 2) := by decide +kernel
theorem dX7_nods_84 : decode cX7_nods 84 = .ok (.iload 6, 2) := by decide +kernel
theorem dX7_nods_86 : decode cX7_nods 86 = .ok (.iconst 1, 1) := by decide +kernel
theorem dX7_nods_87 : decode cX7_nods 87 = .ok (.aload_n 0, 1) := by decide +kernel
theorem dX7_nods_88 : decode cX7_nods 88 = .ok (.getfield 7, 3) := by decide +kernel
theorem dX7_nods_91 : decode cX7_nods 91 = .ok (.bipush 22, 2) := by decide +kernel
theorem dX7_nods_93 : decode cX7_nods 93 = .ok (.iaload, 1) := by decide +kernel
theorem dX7_nods_94 : decode cX7_nods 94 = .ok (.ishl, 1) := by decide +kernel
theorem dX7_nods_95 : decode cX7_nods 95 = .ok (.if_icmp .ge 95, 3) := by decide +kernel
theorem dX7_nods_98 : decode cX7_nods 98 = .ok (.iconst 1, 1) := by decide +kernel
theorem dX7_nods_99 : decode cX7_nods 99 = .ok (.istore 7, 2) := by decide +kernel
theorem dX7_nods_101 : decode cX7_nods 101 = .ok (.iconst 0, 1) := by decide +kernel
theorem dX7_nods_102 : decode cX7_nods 102 = .ok (.istore 8, 2) := by decide +kernel
theorem dX7_nods_104 : decode cX7_nods 104 = .ok (.iload 8, 2) := by decide +kernel
theorem dX7_nods_106 : decode cX7_nods 106 = .ok (.aload_n 0, 1) := by decide +kernel
theorem dX7_nods_107 : decode cX7_nods 107 = .ok (.getfield 7, 3) := by decide +kernel
theorem dX7_nods_110 : decode cX7_nods 110 = .ok (.bipush 22, 2) := by decide +kernel
theorem dX7_nods_112 : decode cX7_nods 112 = .ok (.iaload, 1) := by decide +kernel
theorem dX7_nods_113 : decode cX7_nods 113 = .ok (.if_icmp .ge 32, 3) := by decide +kernel
theorem dX7_nods_116 : decode cX7_nods 116 = .ok (.iload 7, 2) := by decide +kernel
theorem dX7_nods_118 : decode cX7_nods 118 = .ok (.iload 6, 2) := by decide +kernel
theorem dX7_nods_120 : decode cX7_nods 120 = .ok (.iload 8, 2) := by decide +kernel
theorem dX7_nods_122 : decode cX7_nods 122 = .ok (.invokestatic 133, 3) := by decide +kernel
theorem dX7_nods_125 : decode cX7_nods 125 = .ok (.ifCond .eq 7, 3) := by decide +kernel
theorem dX7_nods_128 : decode cX7_nods 128 = .ok (.iload_n 2, 1) := by decide +kernel
theorem dX7_nods_129 : decode cX7_nods 129 = .ok (.goto 7, 3) := by decide +kernel
theorem dX7_nods_132 : decode cX7_nods 132 = .ok (.bipush 10, 2) := by decide +kernel
theorem dX7_nods_134 : decode cX7_nods 134 = .ok (.iload_n 2, 1) := by decide +kernel
theorem dX7_nods_135 : decode cX7_nods 135 = .ok (.isub, 1) := by decide +kernel
theorem dX7_nods_136 : decode cX7_nods 136 = .ok (.imul, 1) := by decide +kernel
theorem dX7_nods_137 : decode cX7_nods 137 = .ok (.istore 7, 2) := by decide +kernel
theorem dX7_nods_139 : decode cX7_nods 139 = .ok (.iinc 8 1, 3) := by decide +kernel
theorem dX7_nods_142 : decode cX7_nods 142 = .ok (.goto (-38), 3) := by decide +kernel
theorem dX7_nods_145 : decode cX7_nods 145 = .ok (.aload_n 0, 1) := by decide +kernel
theorem dX7_nods_146 : decode cX7_nods 146 = .ok (.iconst 0, 1) := by decide +kernel
theorem dX7_nods_147 : decode cX7_nods 147 = .ok (.bipush 108, 2) := by decide +kernel
theorem dX7_nods_149 : decode cX7_nods 149 = .ok (.invokevirtual 119, 3) := by decide +kernel
theorem dX7_nods_152 : decode cX7_nods 152 = .ok (.aload_n 0, 1) := by decide +kernel
theorem dX7_nods_153 : decode cX7_nods 153 = .ok (.bipush 108, 2) := by decide +kernel
theorem dX7_nods_155 : decode cX7_nods 155 = .ok (.iload 6, 2) := by decide +kernel
theorem dX7_nods_157 : decode cX7_nods 157 = .ok (.invokevirtual 152, 3) := by decide +kernel
theorem dX7_nods_160 : decode cX7_nods 160 = .ok (.iload 4, 2) := by decide +kernel
theorem dX7_nods_162 : decode cX7_nods 162 = .ok (.aload_n 0, 1) := by decide +kernel
theorem dX7_nods_163 : decode cX7_nods 163 = .ok (.bipush 108, 2) := by decide +kernel
theorem dX7_nods_165 : decode cX7_nods 165 = .ok (.invokevirtual 155, 3) := by decide +kernel
theorem dX7_nods_168 : decode cX7_nods 168 = .ok (.invokestatic 201, 3) := by decide +kernel
theorem dX7_nods_171 : decode cX7_nods 171 = .ok (.iload_n 1, 1) := by decide +kernel
theorem dX7_nods_172 : decode cX7_nods 172 = .ok (.if_icmp .lt 8, 3) := by decide +kernel
theorem dX7_nods_175 : decode cX7_nods 175 = .ok (.iload 7, 2) := by decide +kernel
theorem dX7_nods_177 : decode cX7_nods 177 = .ok (.goto 4, 3) := by decide +kernel
theorem dX7_nods_180 : decode cX7_nods 180 = .ok (.iconst 0, 1) := by decide +kernel
theorem dX7_nods_181 : decode cX7_nods 181 = .ok (.iadd, 1) := by decide +kernel
theorem dX7_nods_182 : decode cX7_nods 182 = .ok (.istore 4, 2) := by decide +kernel
theorem dX7_nods_184 : decode cX7_nods 184 = .ok (.iinc 6 1, 3) := by decide +kernel
theorem dX7_nods_187 : decode cX7_nods 187 = .ok (.goto (-103), 3) := by decide +kernel
theorem dX7_nods_190 : decode cX7_nods 190 = .ok (.iload 4, 2) := by decide +kernel
theorem dX7_nods_192 : decode cX7_nods 192 = .ok (.istore 6, 2) := by decide +kernel
theorem dX7_nods_194 : decode cX7_nods 194 = .ok (.iload 5, 2) := by decide +kernel
theorem dX7_nods_196 : decode cX7_nods 196 = .ok (.istore 7, 2) := by decide +kernel
theorem dX7_nods_198 : decode cX7_nods 198 = .ok (.iload 7, 2) := by decide +kernel
theorem dX7_nods_200 : decode cX7_nods 200 = .ok (.ifCond .eq 21, 3) := by decide +kernel
theorem dX7_nods_203 : decode cX7_nods 203 = .ok (.iload 6, 2) := by decide +kernel
theorem dX7_nods_205 : decode cX7_nods 205 = .ok (.iload 7, 2) := by decide +kernel
theorem dX7_nods_207 : decode cX7_nods 207 = .ok (.irem, 1) := by decide +kernel
theorem dX7_nods_208 : decode cX7_nods 208 = .ok (.istore 8, 2) := by decide +kernel
theorem dX7_nods_210 : decode cX7_nods 210 = .ok (.iload 7, 2) := by decide +kernel
theorem dX7_nods_212 : decode cX7_nods 212 = .ok (.istore 6, 2) := by decide +kernel
theorem dX7_nods_214 : decode cX7_nods 214 = .ok (.iload 8, 2) := by decide +kernel
theorem dX7_nods_216 : decode cX7_nods 216 = .ok (.istore 7, 2) := by decide +kernel
theorem dX7_nods_218 : decode cX7_nods 218 = .ok (.goto (-20), 3) := by decide +kernel
theorem dX7_nods_221 : decode cX7_nods 221 = .ok (.iload_n 3, 1) := by decide +kernel
theorem dX7_nods_222 : decode cX7_nods 222 = .ok (.ifCond .ne 11, 3) := by decide +kernel
theorem dX7_nods_225 : decode cX7_nods 225 = .ok (.iload 4, 2) := by decide +kernel
theorem dX7_nods_227 : decode cX7_nods 227 = .ok (.iload 6, 2) := by decide +kernel
theorem dX7_nods_229 : decode cX7_nods 229 = .ok (.idiv, 1) := by decide +kernel
theorem dX7_nods_230 : decode cX7_nods 230 = .ok (.goto 8, 3) := by decide +kernel
theorem dX7_nods_233 : decode cX7_nods 233 = .ok (.iload 5, 2) := by decide +kernel
theorem dX7_nods_235 : decode cX7_nods 235 = .ok (.iload 6, 2) := by decide +kernel
theorem dX7_nods_237 : decode cX7_nods 237 = .ok (.idiv, 1) := by decide +kernel
theorem dX7_nods_238 : decode cX7_nods 238 = .ok (.ireturn, 1) := by decide +kernel
theorem dX7_drawn_0 : decode cX7_drawn 0 = .ok (.aload_n 0, 1) := by decide +kernel
theorem dX7_drawn_1 : decode cX7_drawn 1 = .ok (.invokevirtual 143, 3) := by decide +kernel
theorem dX7_drawn_4 : decode cX7_drawn 4 = .ok (.ifCond .ne 6, 3) := by decide +kernel
theorem dX7_drawn_7 : decode cX7_drawn 7 = .ok (.ldc 146, 2) := by decide +kernel
theorem dX7_drawn_9 : decode cX7_drawn 9 = .ok (.ireturn, 1) := by decide +kernel
theorem dX7_drawn_10 : decode cX7_drawn 10 = .ok (.iload_n 1, 1) := by decide +kernel
theorem dX7_drawn_11 : decode cX7_drawn 11 = .ok (.invokestatic 174, 3) := by decide +kernel
theorem dX7_drawn_14 : decode cX7_drawn 14 = .ok (.ifCond .eq 25, 3) := by decide +kernel
theorem dX7_drawn_17 : decode cX7_drawn 17 = .ok (.iload_n 2, 1) := by decide +kernel
theorem dX7_drawn_18 : decode cX7_drawn 18 = .ok (.i2l, 1) := by decide +kernel
theorem dX7_drawn_19 : decode cX7_drawn 19 = .ok (.lconst 1, 1) := by decide +kernel
theorem dX7_drawn_20 : decode cX7_drawn 20 = .ok (.ldc2_w 219, 3) := by decide +kernel
theorem dX7_drawn_23 : decode cX7_drawn 23 = .ok (.invokestatic 45, 3) := by decide +kernel
theorem dX7_drawn_26 : decode cX7_drawn 26 = .ok (.ifCond .eq 13, 3) := by decide +kernel
theorem dX7_drawn_29 : decode cX7_drawn 29 = .ok (.iload_n 3, 1) := by decide +kernel
theorem dX7_drawn_30 : decode cX7_drawn 30 = .ok (.i2l, 1) := by decide +kernel
theorem dX7_drawn_31 : decode cX7_drawn 31 = .ok (.lconst 0, 1) := by decide +kernel
theorem dX7_drawn_32 : decode cX7_drawn 32 = .ok (.lconst 1, 1) := by decide +kernel
theorem dX7_drawn_33 : decode cX7_drawn 33 = .ok (.invokestatic 45, 3) := by decide +kernel
theorem dX7_drawn_36 : decode cX7_drawn 36 = .ok (.ifCond .ne 6, 3) := by decide +kernel
theorem dX7_drawn_39 : decode cX7_drawn 39 = .ok (.ldc 55, 2) := by decide +kernel
theorem dX7_drawn_41 : decode cX7_drawn 41 = .ok (.ireturn, 1) := by decide +kernel
theorem dX7_drawn_42 : decode cX7_drawn 42 = .ok (.aload_n 0, 1) := by decide +kernel
theorem dX7_drawn_43 : decode cX7_drawn 43 = .ok (.iconst 0, 1) := by decide +kernel
theorem dX7_drawn_44 : decode cX7_drawn 44 = .ok (.bipush 108, 2) := by decide +kernel
theorem dX7_drawn_46 : decode cX7_drawn 46 = .ok (.invokevirtual 119, 3) := by decide +kernel
theorem dX7_drawn_49 : decode cX7_drawn 49 = .ok (.iload_n 2, 1) := by decide +kernel
theorem dX7_drawn_50 : decode cX7_drawn 50 = .ok (.i2l, 1) := by decide +kernel
theorem dX7_drawn_51 : decode cX7_drawn 51 = .ok (.lstore 4, 2) := by decide +kernel
theorem dX7_drawn_53 : decode cX7_drawn 53 = .ok (.iconst 0, 1) := by decide +kernel
theorem dX7_drawn_54 : decode cX7_drawn 54 = .ok (.istore 6, 2) := by decide +kernel
theorem dX7_drawn_56 : decode cX7_drawn 56 = .ok (.iconst 0, 1) := by decide +kernel
theorem dX7_drawn_57 : decode cX7_drawn 57 = .ok (.istore 7, 2) := by decide +kernel
theorem dX7_drawn_59 : decode cX7_drawn 59 = .ok (.iload 7, 2) := by decide +kernel
theorem dX7_drawn_61 : decode cX7_drawn 61 = .ok (.iload_n 1, 1) := by decide +kernel
theorem dX7_drawn_62 : decode cX7_drawn 62 = .ok (.if_icmp .ge 100, 3) := by decide +kernel
theorem dX7_drawn_65 : decode cX7_drawn 65 = .ok (.lload 4, 2) := by decide +kernel
theorem dX7_drawn_67 : decode cX7_drawn 67 = .ok (.ldc2_w 221, 3) := by decide +kernel
theorem dX7_drawn_70 : decode cX7_drawn 70 = .ok (.lmul, 1) := by decide +kernel
theorem dX7_drawn_71 : decode cX7_drawn 71 = .ok (.ldc2_w 223, 3) := by decide +kernel
theorem dX7_drawn_74 : decode cX7_drawn 74 = .ok (.lrem, 1) := by decide +kernel
theorem dX7_drawn_75 : decode cX7_drawn 75 = .ok (.lstore 4, 2) := by decide +kernel
theorem dX7_drawn_77 : decode cX7_drawn 77 = .ok (.lload 4, 2) := by decide +kernel
theorem dX7_drawn_79 : decode cX7_drawn 79 = .ok (.aload_n 0, 1) := by decide +kernel
theorem dX7_drawn_80 : decode cX7_drawn 80 = .ok (.getfield 7, 3) := by decide +kernel
theorem dX7_drawn_83 : decode cX7_drawn 83 = .ok (.bipush 21, 2) := by decide +kernel
theorem dX7_drawn_85 : decode cX7_drawn 85 = .ok (.iaload, 1) := by decide +kernel
theorem dX7_drawn_86 : decode cX7_drawn 86 = .ok (.i2l, 1) := by decide +kernel
theorem dX7_drawn_87 : decode cX7_drawn 87 = .ok (.lrem, 1) := by decide +kernel
theorem dX7_drawn_88 : decode cX7_drawn 88 = .ok (.l2i, 1) := by decide +kernel
theorem dX7_drawn_89 : decode cX7_drawn 89 = .ok (.istore 8, 2) := by decide +kernel
theorem dX7_drawn_91 : decode cX7_drawn 91 = .ok (.aload_n 0, 1) := by decide +kernel
theorem dX7_drawn_92 : decode cX7_drawn 92 = .ok (.getfield 7, 3) := by decide +kernel
theorem dX7_drawn_95 : decode cX7_drawn 95 = .ok (.bipush 109, 2) := by decide +kernel
theorem dX7_drawn_97 : decode cX7_drawn 97 = .ok (.iload 8, 2) := by decide +kernel
theorem dX7_drawn_99 : decode cX7_drawn 99 = .ok (.iadd, 1) := by decide +kernel
theorem dX7_drawn_100 : decode cX7_drawn 100 = .ok (.iaload, 1) := by decide +kernel
theorem dX7_drawn_101 : decode cX7_drawn 101 = .ok (.lload 4, 2) := by decide +kernel
theorem dX7_drawn_103 : decode cX7_drawn 103 = .ok (.ldc2_w 166, 3) := by decide +kernel
theorem dX7_drawn_106 : decode cX7_drawn 106 = .ok (.lrem, 1) := by decide +kernel
theorem dX7_drawn_107 : decode cX7_drawn 107 = .ok (.l2i, 1) := by decide +kernel
theorem dX7_drawn_108 : decode cX7_drawn 108 = .ok (.iadd, 1) := by decide +kernel
theorem dX7_drawn_109 : decode cX7_drawn 109 = .ok (.istore 9, 2) := by decide +kernel
theorem dX7_drawn_111 : decode cX7_drawn 111 = .ok (.aload_n 0, 1) := by decide +kernel
theorem dX7_drawn_112 : decode cX7_drawn 112 = .ok (.getfield 7, 3) := by decide +kernel
theorem dX7_drawn_115 : decode cX7_drawn 115 = .ok (.bipush 109, 2) := by decide +kernel
theorem dX7_drawn_117 : decode cX7_drawn 117 = .ok (.iload 8, 2) := by decide +kernel
theorem dX7_drawn_119 : decode cX7_drawn 119 = .ok (.iadd, 1) := by decide +kernel
theorem dX7_drawn_120 : decode cX7_drawn 120 = .ok (.iload 9, 2) := by decide +kernel
theorem dX7_drawn_122 : decode cX7_drawn 122 = .ok (.bipush 99, 2) := by decide +kernel
theorem dX7_drawn_124 : decode cX7_drawn 124 = .ok (.if_icmp .le 8, 3) := by decide +kernel
theorem dX7_drawn_127 : decode cX7_drawn 127 = .ok (.bipush 99, 2) := by decide +kernel
theorem dX7_drawn_129 : decode cX7_drawn 129 = .ok (.goto 5, 3) := by decide +kernel
theorem dX7_drawn_132 : decode cX7_drawn 132 = .ok (.iload 9, 2) := by decide +kernel
theorem dX7_drawn_134 : decode cX7_drawn 134 = .ok (.iastore, 1) := by decide +kernel
theorem dX7_drawn_135 : decode cX7_drawn 135 = .ok (.aload_n 0, 1) := by decide +kernel
theorem dX7_drawn_136 : decode cX7_drawn 136 = .ok (.bipush 108, 2) := by decide +kernel
theorem dX7_drawn_138 : decode cX7_drawn 138 = .ok (.iconst 0, 1) := by decide +kernel
theorem dX7_drawn_139 : decode cX7_drawn 139 = .ok (.invokevirtual 152, 3) := by decide +kernel
theorem dX7_drawn_142 : decode cX7_drawn 142 = .ok (.iload 6, 2) := by decide +kernel
theorem dX7_drawn_144 : decode cX7_drawn 144 = .ok (.aload_n 0, 1) := by decide +kernel
theorem dX7_drawn_145 : decode cX7_drawn 145 = .ok (.bipush 108, 2) := by decide +kernel
theorem dX7_drawn_147 : decode cX7_drawn 147 = .ok (.invokevirtual 155, 3) := by decide +kernel
theorem dX7_drawn_150 : decode cX7_drawn 150 = .ok (.invokestatic 201, 3) := by decide +kernel
theorem dX7_drawn_153 : decode cX7_drawn 153 = .ok (.iadd, 1) := by decide +kernel
theorem dX7_drawn_154 : decode cX7_drawn 154 = .ok (.istore 6, 2) := by decide +kernel
theorem dX7_drawn_156 : decode cX7_drawn 156 = .ok (.iinc 7 1, 3) := by decide +kernel
theorem dX7_drawn_159 : decode cX7_drawn 159 = .ok (.goto (-100), 3) := by decide +kernel
theorem dX7_drawn_162 : decode cX7_drawn 162 = .ok (.iload_n 3, 1) := by decide +kernel
theorem dX7_drawn_163 : decode cX7_drawn 163 = .ok (.ifCond .ne 8, 3) := by decide +kernel
theorem dX7_drawn_166 : decode cX7_drawn 166 = .ok (.iload 6, 2) := by decide +kernel
theorem dX7_drawn_168 : decode cX7_drawn 168 = .ok (.goto 9, 3) := by decide +kernel
theorem dX7_drawn_171 : decode cX7_drawn 171 = .ok (.aload_n 0, 1) := by decide +kernel
theorem dX7_drawn_172 : decode cX7_drawn 172 = .ok (.bipush 108, 2) := by decide +kernel
theorem dX7_drawn_174 : decode cX7_drawn 174 = .ok (.invokevirtual 204, 3) := by decide +kernel
theorem dX7_drawn_177 : decode cX7_drawn 177 = .ok (.ireturn, 1) := by decide +kernel
theorem dX7_image_0 : decode cX7_image 0 = .ok (.iload_n 1, 1) := by decide +kernel
theorem dX7_image_1 : decode cX7_image 1 = .ok (.i2l, 1) := by decide +kernel
theorem dX7_image_2 : decode cX7_image 2 = .ok (.lconst 0, 1) := by decide +kernel
theorem dX7_image_3 : decode cX7_image 3 = .ok (.lconst 1, 1) := by decide +kernel
theorem dX7_image_4 : decode cX7_image 4 = .ok (.invokestatic 45, 3) := by decide +kernel
theorem dX7_image_7 : decode cX7_image 7 = .ok (.ifCond .ne 6, 3) := by decide +kernel
theorem dX7_image_10 : decode cX7_image 10 = .ok (.ldc 55, 2) := by decide +kernel
theorem dX7_image_12 : decode cX7_image 12 = .ok (.ireturn, 1) := by decide +kernel
theorem dX7_image_13 : decode cX7_image 13 = .ok (.aload_n 0, 1) := by decide +kernel
theorem dX7_image_14 : decode cX7_image 14 = .ok (.invokevirtual 143, 3) := by decide +kernel
theorem dX7_image_17 : decode cX7_image 17 = .ok (.ifCond .ne 6, 3) := by decide +kernel
theorem dX7_image_20 : decode cX7_image 20 = .ok (.ldc 146, 2) := by decide +kernel
theorem dX7_image_22 : decode cX7_image 22 = .ok (.ireturn, 1) := by decide +kernel
theorem dX7_image_23 : decode cX7_image 23 = .ok (.aload_n 0, 1) := by decide +kernel
theorem dX7_image_24 : decode cX7_image 24 = .ok (.iconst 0, 1) := by decide +kernel
theorem dX7_image_25 : decode cX7_image 25 = .ok (.bipush 36, 2) := by decide +kernel
theorem dX7_image_27 : decode cX7_image 27 = .ok (.iconst 1, 1) := by decide +kernel
theorem dX7_image_28 : decode cX7_image 28 = .ok (.iload_n 1, 1) := by decide +kernel
theorem dX7_image_29 : decode cX7_image 29 = .ok (.iadd, 1) := by decide +kernel
theorem dX7_image_30 : decode cX7_image 30 = .ok (.imul, 1) := by decide +kernel
theorem dX7_image_31 : decode cX7_image 31 = .ok (.invokevirtual 119, 3) := by decide +kernel
theorem dX7_image_34 : decode cX7_image 34 = .ok (.aload_n 0, 1) := by decide +kernel
theorem dX7_image_35 : decode cX7_image 35 = .ok (.getfield 13, 3) := by decide +kernel
theorem dX7_image_38 : decode cX7_image 38 = .ok (.iload_n 1, 1) := by decide +kernel
theorem dX7_image_39 : decode cX7_image 39 = .ok (.iconst 1, 1) := by decide +kernel
theorem dX7_image_40 : decode cX7_image 40 = .ok (.bastore, 1) := by decide +kernel
theorem dX7_image_41 : decode cX7_image 41 = .ok (.iconst 1, 1) := by decide +kernel
theorem dX7_image_42 : decode cX7_image 42 = .ok (.ireturn, 1) := by decide +kernel
theorem dX7_restore_0 : decode cX7_restore 0 = .ok (.iload_n 1, 1) := by decide +kernel
theorem dX7_restore_1 : decode cX7_restore 1 = .ok (.i2l, 1) := by decide +kernel
theorem dX7_restore_2 : decode cX7_restore 2 = .ok (.lconst 0, 1) := by decide +kernel
theorem dX7_restore_3 : decode cX7_restore 3 = .ok (.lconst 1, 1) := by decide +kernel
theorem dX7_restore_4 : decode cX7_restore 4 = .ok (.invokestatic 45, 3) := by decide +kernel
theorem dX7_restore_7 : decode cX7_restore 7 = .ok (.ifCond .ne 6, 3) := by decide +kernel
theorem dX7_restore_10 : decode cX7_restore 10 = .ok (.ldc 55, 2) := by decide +kernel
theorem dX7_restore_12 : decode cX7_restore 12 = .ok (.ireturn, 1) := by decide +kernel
theorem dX7_restore_13 : decode cX7_restore 13 = .ok (.aload_n 0, 1) := by decide +kernel
theorem dX7_restore_14 : decode cX7_restore 14 = .ok (.getfield 13, 3) := by decide +kernel
theorem dX7_restore_17 : decode cX7_restore 17 = .ok (.iload_n 1, 1) := by decide +kernel
theorem dX7_restore_18 : decode cX7_restore 18 = .ok (.baload, 1) := by decide +kernel
theorem dX7_restore_19 : decode cX7_restore 19 = .ok (.ifCond .ne 6, 3) := by decide +kernel
theorem dX7_restore_22 : decode cX7_restore 22 = .ok (.ldc 146, 2) := by decide +kernel
theorem dX7_restore_24 : decode cX7_restore 24 = .ok (.ireturn, 1) := by decide +kernel
theorem dX7_restore_25 : decode cX7_restore 25 = .ok (.aload_n 0, 1) := by decide +kernel
theorem dX7_restore_26 : decode cX7_restore 26 = .ok (.bipush 36, 2) := by decide +kernel
theorem dX7_restore_28 : decode cX7_restore 28 = .ok (.iconst 1, 1) := by decide +kernel
theorem dX7_restore_29 : decode cX7_restore 29 = .ok (.iload_n 1, 1) := by decide +kernel
theorem dX7_restore_30 : decode cX7_restore 30 = .ok (.iadd, 1) := by decide +kernel
theorem dX7_restore_31 : decode cX7_restore 31 = .ok (.imul, 1) := by decide +kernel
theorem dX7_restore_32 : decode cX7_restore 32 = .ok (.iconst 0, 1) := by decide +kernel
theorem dX7_restore_33 : decode cX7_restore 33 = .ok (.invokevirtual 119, 3) := by decide +kernel
theorem dX7_restore_36 : decode cX7_restore 36 = .ok (.aload_n 0, 1) := by decide +kernel
theorem dX7_restore_37 : decode cX7_restore 37 = .ok (.iconst 0, 1) := by decide +kernel
theorem dX7_restore_38 : decode cX7_restore 38 = .ok (.putfield 123, 3) := by decide +kernel
theorem dX7_restore_41 : decode cX7_restore 41 = .ok (.iconst 1, 1) := by decide +kernel
theorem dX7_restore_42 : decode cX7_restore 42 = .ok (.ireturn, 1) := by decide +kernel
theorem dX7_kind_0 : decode cX7_kind 0 = .ok (.aload_n 0, 1) := by decide +kernel
theorem dX7_kind_1 : decode cX7_kind 1 = .ok (.iload_n 1, 1) := by decide +kernel
theorem dX7_kind_2 : decode cX7_kind 2 = .ok (.invokevirtual 158, 3) := by decide +kernel
theorem dX7_kind_5 : decode cX7_kind 5 = .ok (.ifCond .eq 15, 3) := by decide +kernel
theorem dX7_kind_8 : decode cX7_kind 8 = .ok (.aload_n 0, 1) := by decide +kernel
theorem dX7_kind_9 : decode cX7_kind 9 = .ok (.getfield 7, 3) := by decide +kernel
theorem dX7_kind_12 : decode cX7_kind 12 = .ok (.bipush 28, 2) := by decide +kernel
theorem dX7_kind_14 : decode cX7_kind 14 = .ok (.iload_n 1, 1) := by decide +kernel
theorem dX7_kind_15 : decode cX7_kind 15 = .ok (.iadd, 1) := by decide +kernel
theorem dX7_kind_16 : decode cX7_kind 16 = .ok (.iaload, 1) := by decide +kernel
theorem dX7_kind_17 : decode cX7_kind 17 = .ok (.goto 5, 3) := by decide +kernel
theorem dX7_kind_20 : decode cX7_kind 20 = .ok (.ldc 55, 2) := by decide +kernel
theorem dX7_kind_22 : decode cX7_kind 22 = .ok (.ireturn, 1) := by decide +kernel
theorem dX7_as_0 : decode cX7_as 0 = .ok (.aload_n 0, 1) := by decide +kernel
theorem dX7_as_1 : decode cX7_as 1 = .ok (.iload_n 1, 1) := by decide +kernel
theorem dX7_as_2 : decode cX7_as 2 = .ok (.invokevirtual 158, 3) := by decide +kernel
theorem dX7_as_5 : decode cX7_as 5 = .ok (.ifCond .eq 15, 3) := by decide +kernel
theorem dX7_as_8 : decode cX7_as 8 = .ok (.iload_n 2, 1) := by decide +kernel
theorem dX7_as_9 : decode cX7_as 9 = .ok (.i2l, 1) := by decide +kernel
theorem dX7_as_10 : decode cX7_as 10 = .ok (.lconst 0, 1) := by decide +kernel
theorem dX7_as_11 : decode cX7_as 11 = .ok (.ldc2_w 166, 3) := by decide +kernel
theorem dX7_as_14 : decode cX7_as 14 = .ok (.invokestatic 45, 3) := by decide +kernel
theorem dX7_as_17 : decode cX7_as 17 = .ok (.ifCond .ne 6, 3) := by decide +kernel
theorem dX7_as_20 : decode cX7_as 20 = .ok (.ldc 55, 2) := by decide +kernel
theorem dX7_as_22 : decode cX7_as 22 = .ok (.ireturn, 1) := by decide +kernel
theorem dX7_as_23 : decode cX7_as 23 = .ok (.aload_n 0, 1) := by decide +kernel
theorem dX7_as_24 : decode cX7_as 24 = .ok (.getfield 7, 3) := by decide +kernel
theorem dX7_as_27 : decode cX7_as 27 = .ok (.bipush 28, 2) := by decide +kernel
theorem dX7_as_29 : decode cX7_as 29 = .ok (.iload_n 1, 1) := by decide +kernel
theorem dX7_as_30 : decode cX7_as 30 = .ok (.iadd, 1) := by decide +kernel
theorem dX7_as_31 : decode cX7_as 31 = .ok (.iaload, 1) := by decide +kernel
theorem dX7_as_32 : decode cX7_as 32 = .ok (.istore_n 3, 1) := by decide +kernel
theorem dX7_as_33 : decode cX7_as 33 = .ok (.iload_n 2, 1) := by decide +kernel
theorem dX7_as_34 : decode cX7_as 34 = .ok (.ifCond .eq 28, 3) := by decide +kernel
theorem dX7_as_37 : decode cX7_as 37 = .ok (.iload_n 2, 1) := by decide +kernel
theorem dX7_as_38 : decode cX7_as 38 = .ok (.iload_n 3, 1) := by decide +kernel
theorem dX7_as_39 : decode cX7_as 39 = .ok (.if_icmp .eq 23, 3) := by decide +kernel
theorem dX7_as_42 : decode cX7_as 42 = .ok (.iload_n 2, 1) := by decide +kernel
theorem dX7_as_43 : decode cX7_as 43 = .ok (.iconst 1, 1) := by decide +kernel
theorem dX7_as_44 : decode cX7_as 44 = .ok (.if_icmp .ne 8, 3) := by decide +kernel
theorem dX7_as_47 : decode cX7_as 47 = .ok (.iload_n 3, 1) := by decide +kernel
theorem dX7_as_48 : decode cX7_as 48 = .ok (.iconst 4, 1) := by decide +kernel
theorem dX7_as_49 : decode cX7_as 49 = .ok (.if_icmp .lt 13, 3) := by decide +kernel
theorem dX7_as_52 : decode cX7_as 52 = .ok (.iload_n 2, 1) := by decide +kernel
theorem dX7_as_53 : decode cX7_as 53 = .ok (.iconst 4, 1) := by decide +kernel
theorem dX7_as_54 : decode cX7_as 54 = .ok (.if_icmp .ne 12, 3) := by decide +kernel
theorem dX7_as_57 : decode cX7_as 57 = .ok (.iload_n 3, 1) := by decide +kernel
theorem dX7_as_58 : decode cX7_as 58 = .ok (.iconst 5, 1) := by decide +kernel
theorem dX7_as_59 : decode cX7_as 59 = .ok (.if_icmp .ne 7, 3) := by decide +kernel
theorem dX7_as_62 : decode cX7_as 62 = .ok (.iconst 1, 1) := by decide +kernel
theorem dX7_as_63 : decode cX7_as 63 = .ok (.goto 4, 3) := by decide +kernel
theorem dX7_as_66 : decode cX7_as 66 = .ok (.iconst 0, 1) := by decide +kernel
theorem dX7_as_67 : decode cX7_as 67 = .ok (.istore 4, 2) := by decide +kernel
theorem dX7_as_69 : decode cX7_as 69 = .ok (.iload 4, 2) := by decide +kernel
theorem dX7_as_71 : decode cX7_as 71 = .ok (.ifCond .eq 11, 3) := by decide +kernel
theorem dX7_as_74 : decode cX7_as 74 = .ok (.aload_n 0, 1) := by decide +kernel
theorem dX7_as_75 : decode cX7_as 75 = .ok (.iload_n 1, 1) := by decide +kernel
theorem dX7_as_76 : decode cX7_as 76 = .ok (.invokevirtual 60, 3) := by decide +kernel
theorem dX7_as_79 : decode cX7_as 79 = .ok (.goto 8, 3) := by decide +kernel
theorem dX7_as_82 : decode cX7_as 82 = .ok (.aload_n 0, 1) := by decide +kernel
theorem dX7_as_83 : decode cX7_as 83 = .ok (.iconst 3, 1) := by decide +kernel
theorem dX7_as_84 : decode cX7_as 84 = .ok (.invokevirtual 56, 3) := by decide +kernel
theorem dX7_as_87 : decode cX7_as 87 = .ok (.ireturn, 1) := by decide +kernel
theorem dX7_leaves_0 : decode cX7_leaves 0 = .ok (.aload_n 0, 1) := by decide +kernel
theorem dX7_leaves_1 : decode cX7_leaves 1 = .ok (.getfield 225, 3) := by decide +kernel
theorem dX7_leaves_4 : decode cX7_leaves 4 = .ok (.bipush 16, 2) := by decide +kernel
theorem dX7_leaves_6 : decode cX7_leaves 6 = .ok (.if_icmp .ge 23, 3) := by decide +kernel
theorem dX7_leaves_9 : decode cX7_leaves 9 = .ok (.aload_n 0, 1) := by decide +kernel
theorem dX7_leaves_10 : decode cX7_leaves 10 = .ok (.getfield 32, 3) := by decide +kernel
theorem dX7_leaves_13 : decode cX7_leaves 13 = .ok (.aload_n 0, 1) := by decide +kernel
theorem dX7_leaves_14 : decode cX7_leaves 14 = .ok (.getfield 225, 3) := by decide +kernel
theorem dX7_leaves_17 : decode cX7_leaves 17 = .ok (.iload_n 1, 1) := by decide +kernel
theorem dX7_leaves_18 : decode cX7_leaves 18 = .ok (.iastore, 1) := by decide +kernel
theorem dX7_leaves_19 : decode cX7_leaves 19 = .ok (.aload_n 0, 1) := by decide +kernel
theorem dX7_leaves_20 : decode cX7_leaves 20 = .ok (.dup, 1) := by decide +kernel
theorem dX7_leaves_21 : decode cX7_leaves 21 = .ok (.getfield 225, 3) := by decide +kernel
theorem dX7_leaves_24 : decode cX7_leaves 24 = .ok (.iconst 1, 1) := by decide +kernel
theorem dX7_leaves_25 : decode cX7_leaves 25 = .ok (.iadd, 1) := by decide +kernel
theorem dX7_leaves_26 : decode cX7_leaves 26 = .ok (.putfield 225, 3) := by decide +kernel
theorem dX7_leaves_29 : decode cX7_leaves 29 = .ok (.return_, 1) := by decide +kernel
theorem dX7_markLent_0 : decode cX7_markLent 0 = .ok (.aload_n 0, 1) := by decide +kernel
theorem dX7_markLent_1 : decode cX7_markLent 1 = .ok (.bipush 20, 2) := by decide +kernel
theorem dX7_markLent_3 : decode cX7_markLent 3 = .ok (.invokevirtual 228, 3) := by decide +kernel
theorem dX7_markLent_6 : decode cX7_markLent 6 = .ok (.iload_n 1, 1) := by decide +kernel
theorem dX7_markLent_7 : decode cX7_markLent 7 = .ok (.ireturn, 1) := by decide +kernel
theorem dX7_markOwl_0 : decode cX7_markOwl 0 = .ok (.aload_n 0, 1) := by decide +kernel
theorem dX7_markOwl_1 : decode cX7_markOwl 1 = .ok (.bipush 21, 2) := by decide +kernel
theorem dX7_markOwl_3 : decode cX7_markOwl 3 = .ok (.invokevirtual 228, 3) := by decide +kernel
theorem dX7_markOwl_6 : decode cX7_markOwl 6 = .ok (.aload_n 0, 1) := by decide +kernel
theorem dX7_markOwl_7 : decode cX7_markOwl 7 = .ok (.iload_n 1, 1) := by decide +kernel
theorem dX7_markOwl_8 : decode cX7_markOwl 8 = .ok (.invokevirtual 231, 3) := by decide +kernel
theorem dX7_markOwl_11 : decode cX7_markOwl 11 = .ok (.aload_n 0, 1) := by decide +kernel
theorem dX7_markOwl_12 : decode cX7_markOwl 12 = .ok (.getfield 7, 3) := by decide +kernel
theorem dX7_markOwl_15 : decode cX7_markOwl 15 = .ok (.bipush 14, 2) := by decide +kernel
theorem dX7_markOwl_17 : decode cX7_markOwl 17 = .ok (.iload_n 1, 1) := by decide +kernel
theorem dX7_markOwl_18 : decode cX7_markOwl 18 = .ok (.iadd, 1) := by decide +kernel
theorem dX7_markOwl_19 : decode cX7_markOwl 19 = .ok (.iaload, 1) := by decide +kernel
theorem dX7_markOwl_20 : decode cX7_markOwl 20 = .ok (.iadd, 1) := by decide +kernel
theorem dX7_markOwl_21 : decode cX7_markOwl 21 = .ok (.ireturn, 1) := by decide +kernel
theorem dX7_sizeGuard_0 : decode cX7_sizeGuard 0 = .ok (.iload_n 2, 1) := by decide +kernel
theorem dX7_sizeGuard_1 : decode cX7_sizeGuard 1 = .ok (.ifCond .eq 9, 3) := by decide +kernel
theorem dX7_sizeGuard_4 : decode cX7_sizeGuard 4 = .ok (.aload_n 0, 1) := by decide +kernel
theorem dX7_sizeGuard_5 : decode cX7_sizeGuard 5 = .ok (.bipush 14, 2) := by decide +kernel
theorem dX7_sizeGuard_7 : decode cX7_sizeGuard 7 = .ok (.invokevirtual 228, 3) := by decide +kernel
theorem dX7_sizeGuard_10 : decode cX7_sizeGuard 10 = .ok (.aload_n 0, 1) := by decide +kernel
theorem dX7_sizeGuard_11 : decode cX7_sizeGuard 11 = .ok (.bipush 13, 2) := by decide +kernel
theorem dX7_sizeGuard_13 : decode cX7_sizeGuard 13 = .ok (.invokevirtual 228, 3) := by decide +kernel
theorem dX7_sizeGuard_16 : decode cX7_sizeGuard 16 = .ok (.aload_n 0, 1) := by decide +kernel
theorem dX7_sizeGuard_17 : decode cX7_sizeGuard 17 = .ok (.bipush 10, 2) := by decide +kernel
theorem dX7_sizeGuard_19 : decode cX7_sizeGuard 19 = .ok (.invokevirtual 228, 3) := by decide +kernel
theorem dX7_sizeGuard_22 : decode cX7_sizeGuard 22 = .ok (.aload_n 0, 1) := by decide +kernel
theorem dX7_sizeGuard_23 : decode cX7_sizeGuard 23 = .ok (.getfield 7, 3) := by decide +kernel
theorem dX7_sizeGuard_26 : decode cX7_sizeGuard 26 = .ok (.bipush 32, 2) := by decide +kernel
theorem dX7_sizeGuard_28 : decode cX7_sizeGuard 28 = .ok (.iload_n 1, 1) := by decide +kernel
theorem dX7_sizeGuard_29 : decode cX7_sizeGuard 29 = .ok (.iadd, 1) := by decide +kernel
theorem dX7_sizeGuard_30 : decode cX7_sizeGuard 30 = .ok (.iaload, 1) := by decide +kernel
theorem dX7_sizeGuard_31 : decode cX7_sizeGuard 31 = .ok (.bipush 100, 2) := by decide +kernel
theorem dX7_sizeGuard_33 : decode cX7_sizeGuard 33 = .ok (.isub, 1) := by decide +kernel
theorem dX7_sizeGuard_34 : decode cX7_sizeGuard 34 = .ok (.istore_n 3, 1) := by decide +kernel
theorem dX7_sizeGuard_35 : decode cX7_sizeGuard 35 = .ok (.iload_n 2, 1) := by decide +kernel
theorem dX7_sizeGuard_36 : decode cX7_sizeGuard 36 = .ok (.ifCond .eq 9, 3) := by decide +kernel
theorem dX7_sizeGuard_39 : decode cX7_sizeGuard 39 = .ok (.iconst 2, 1) := by decide +kernel
theorem dX7_sizeGuard_40 : decode cX7_sizeGuard 40 = .ok (.iload_n 3, 1) := by decide +kernel
theorem dX7_sizeGuard_41 : decode cX7_sizeGuard 41 = .ok (.imul, 1) := by decide +kernel
theorem dX7_sizeGuard_42 : decode cX7_sizeGuard 42 = .ok (.goto 4, 3) := by decide +kernel
theorem dX7_sizeGuard_45 : decode cX7_sizeGuard 45 = .ok (.iload_n 3, 1) := by decide +kernel
theorem dX7_sizeGuard_46 : decode cX7_sizeGuard 46 = .ok (.ireturn, 1) := by decide +kernel
theorem dX7_mark_0 : decode cX7_mark 0 = .ok (.aload_n 0, 1) := by decide +kernel
theorem dX7_mark_1 : decode cX7_mark 1 = .ok (.getfield 7, 3) := by decide +kernel
theorem dX7_mark_4 : decode cX7_mark 4 = .ok (.bipush 28, 2) := by decide +kernel
theorem dX7_mark_6 : decode cX7_mark 6 = .ok (.iload_n 1, 1) := by decide +kernel
theorem dX7_mark_7 : decode cX7_mark 7 = .ok (.iadd, 1) := by decide +kernel
theorem dX7_mark_8 : decode cX7_mark 8 = .ok (.iaload, 1) := by decide +kernel
theorem dX7_mark_9 : decode cX7_mark 9 = .ok (.istore_n 2, 1) := by decide +kernel
theorem dX7_mark_10 : decode cX7_mark 10 = .ok (.iload_n 2, 1) := by decide +kernel
theorem dX7_mark_11 : decode cX7_mark 11 = .ok (.tableswitch 61 1 3 #[55, 25, 39], 25) := by decide +kernel
theorem dX7_mark_36 : decode cX7_mark 36 = .ok (.aload_n 0, 1) := by decide +kernel
theorem dX7_mark_37 : decode cX7_mark 37 = .ok (.bipush 24, 2) := by decide +kernel
theorem dX7_mark_39 : decode cX7_mark 39 = .ok (.invokevirtual 228, 3) := by decide +kernel
theorem dX7_mark_42 : decode cX7_mark 42 = .ok (.iconst 2, 1) := by decide +kernel
theorem dX7_mark_43 : decode cX7_mark 43 = .ok (.aload_n 0, 1) := by decide +kernel
theorem dX7_mark_44 : decode cX7_mark 44 = .ok (.iload_n 1, 1) := by decide +kernel
theorem dX7_mark_45 : decode cX7_mark 45 = .ok (.invokevirtual 234, 3) := by decide +kernel
theorem dX7_mark_48 : decode cX7_mark 48 = .ok (.imul, 1) := by decide +kernel
theorem dX7_mark_49 : decode cX7_mark 49 = .ok (.ireturn, 1) := by decide +kernel
theorem dX7_mark_50 : decode cX7_mark 50 = .ok (.aload_n 0, 1) := by decide +kernel
theorem dX7_mark_51 : decode cX7_mark 51 = .ok (.bipush 22, 2) := by decide +kernel
theorem dX7_mark_53 : decode cX7_mark 53 = .ok (.invokevirtual 228, 3) := by decide +kernel
theorem dX7_mark_56 : decode cX7_mark 56 = .ok (.aload_n 0, 1) := by decide +kernel
theorem dX7_mark_57 : decode cX7_mark 57 = .ok (.iload_n 1, 1) := by decide +kernel
theorem dX7_mark_58 : decode cX7_mark 58 = .ok (.invokevirtual 234, 3) := by decide +kernel
theorem dX7_mark_61 : decode cX7_mark 61 = .ok (.sipush 1000, 3) := by decide +kernel
theorem dX7_mark_64 : decode cX7_mark 64 = .ok (.isub, 1) := by decide +kernel
theorem dX7_mark_65 : decode cX7_mark 65 = .ok (.ireturn, 1) := by decide +kernel
theorem dX7_mark_66 : decode cX7_mark 66 = .ok (.aload_n 0, 1) := by decide +kernel
theorem dX7_mark_67 : decode cX7_mark 67 = .ok (.iload_n 1, 1) := by decide +kernel
theorem dX7_mark_68 : decode cX7_mark 68 = .ok (.invokevirtual 234, 3) := by decide +kernel
theorem dX7_mark_71 : decode cX7_mark 71 = .ok (.ireturn, 1) := by decide +kernel
theorem dX7_mark_72 : decode cX7_mark 72 = .ok (.aload_n 0, 1) := by decide +kernel
theorem dX7_mark_73 : decode cX7_mark 73 = .ok (.bipush 23, 2) := by decide +kernel
theorem dX7_mark_75 : decode cX7_mark 75 = .ok (.invokevirtual 228, 3) := by decide +kernel
theorem dX7_mark_78 : decode cX7_mark 78 = .ok (.aload_n 0, 1) := by decide +kernel
theorem dX7_mark_79 : decode cX7_mark 79 = .ok (.iload_n 1, 1) := by decide +kernel
theorem dX7_mark_80 : decode cX7_mark 80 = .ok (.invokevirtual 231, 3) := by decide +kernel
theorem dX7_mark_83 : decode cX7_mark 83 = .ok (.aload_n 0, 1) := by decide +kernel
theorem dX7_mark_84 : decode cX7_mark 84 = .ok (.iload_n 1, 1) := by decide +kernel
theorem dX7_mark_85 : decode cX7_mark 85 = .ok (.iload_n 2, 1) := by decide +kernel
theorem dX7_mark_86 : decode cX7_mark 86 = .ok (.iconst 5, 1) := by decide +kernel
theorem dX7_mark_87 : decode cX7_mark 87 = .ok (.if_icmp .ne 7, 3) := by decide +kernel
theorem dX7_mark_90 : decode cX7_mark 90 = .ok (.iconst 1, 1) := by decide +kernel
theorem dX7_mark_91 : decode cX7_mark 91 = .ok (.goto 4, 3) := by decide +kernel
theorem dX7_mark_94 : decode cX7_mark 94 = .ok (.iconst 0, 1) := by decide +kernel
theorem dX7_mark_95 : decode cX7_mark 95 = .ok (.invokevirtual 237, 3) := by decide +kernel
theorem dX7_mark_98 : decode cX7_mark 98 = .ok (.isub, 1) := by decide +kernel
theorem dX7_mark_99 : decode cX7_mark 99 = .ok (.ireturn, 1) := by decide +kernel
theorem dX7_sizeOwl_0 : decode cX7_sizeOwl 0 = .ok (.aload_n 0, 1) := by decide +kernel
theorem dX7_sizeOwl_1 : decode cX7_sizeOwl 1 = .ok (.bipush 11, 2) := by decide +kernel
theorem dX7_sizeOwl_3 : decode cX7_sizeOwl 3 = .ok (.invokevirtual 228, 3) := by decide +kernel
theorem dX7_sizeOwl_6 : decode cX7_sizeOwl 6 = .ok (.aload_n 0, 1) := by decide +kernel
theorem dX7_sizeOwl_7 : decode cX7_sizeOwl 7 = .ok (.bipush 10, 2) := by decide +kernel
theorem dX7_sizeOwl_9 : decode cX7_sizeOwl 9 = .ok (.invokevirtual 228, 3) := by decide +kernel
theorem dX7_sizeOwl_12 : decode cX7_sizeOwl 12 = .ok (.aload_n 0, 1) := by decide +kernel
theorem dX7_sizeOwl_13 : decode cX7_sizeOwl 13 = .ok (.getfield 7, 3) := by decide +kernel
theorem dX7_sizeOwl_16 : decode cX7_sizeOwl 16 = .ok (.bipush 32, 2) := by decide +kernel
theorem dX7_sizeOwl_18 : decode cX7_sizeOwl 18 = .ok (.iload_n 1, 1) := by decide +kernel
theorem dX7_sizeOwl_19 : decode cX7_sizeOwl 19 = .ok (.iadd, 1) := by decide +kernel
theorem dX7_sizeOwl_20 : decode cX7_sizeOwl 20 = .ok (.iaload, 1) := by decide +kernel
theorem dX7_sizeOwl_21 : decode cX7_sizeOwl 21 = .ok (.aload_n 0, 1) := by decide +kernel
theorem dX7_sizeOwl_22 : decode cX7_sizeOwl 22 = .ok (.iload_n 1, 1) := by decide +kernel
theorem dX7_sizeOwl_23 : decode cX7_sizeOwl 23 = .ok (.invokevirtual 241, 3) := by decide +kernel
theorem dX7_sizeOwl_26 : decode cX7_sizeOwl 26 = .ok (.iadd, 1) := by decide +kernel
theorem dX7_sizeOwl_27 : decode cX7_sizeOwl 27 = .ok (.ireturn, 1) := by decide +kernel
theorem dX7_size_0 : decode cX7_size 0 = .ok (.aload_n 0, 1) := by decide +kernel
theorem dX7_size_1 : decode cX7_size 1 = .ok (.getfield 7, 3) := by decide +kernel
theorem dX7_size_4 : decode cX7_size 4 = .ok (.bipush 28, 2) := by decide +kernel
theorem dX7_size_6 : decode cX7_size 6 = .ok (.iload_n 1, 1) := by decide +kernel
theorem dX7_size_7 : decode cX7_size 7 = .ok (.iadd, 1) := by decide +kernel
theorem dX7_size_8 : decode cX7_size 8 = .ok (.iaload, 1) := by decide +kernel
theorem dX7_size_9 : decode cX7_size 9 = .ok (.istore_n 2, 1) := by decide +kernel
theorem dX7_size_10 : decode cX7_size 10 = .ok (.iload_n 2, 1) := by decide +kernel
theorem dX7_size_11 : decode cX7_size 11 = .ok (.tableswitch 44 1 3 #[38, 25, 38], 25) := by decide +kernel
theorem dX7_size_36 : decode cX7_size 36 = .ok (.aload_n 0, 1) := by decide +kernel
theorem dX7_size_37 : decode cX7_size 37 = .ok (.bipush 12, 2) := by decide +kernel
theorem dX7_size_39 : decode cX7_size 39 = .ok (.invokevirtual 228, 3) := by decide +kernel
theorem dX7_size_42 : decode cX7_size 42 = .ok (.aload_n 0, 1) := by decide +kernel
theorem dX7_size_43 : decode cX7_size 43 = .ok (.iload_n 1, 1) := by decide +kernel
theorem dX7_size_44 : decode cX7_size 44 = .ok (.invokevirtual 244, 3) := by decide +kernel
theorem dX7_size_47 : decode cX7_size 47 = .ok (.ineg, 1) := by decide +kernel
theorem dX7_size_48 : decode cX7_size 48 = .ok (.ireturn, 1) := by decide +kernel
theorem dX7_size_49 : decode cX7_size 49 = .ok (.aload_n 0, 1) := by decide +kernel
theorem dX7_size_50 : decode cX7_size 50 = .ok (.iload_n 1, 1) := by decide +kernel
theorem dX7_size_51 : decode cX7_size 51 = .ok (.invokevirtual 244, 3) := by decide +kernel
theorem dX7_size_54 : decode cX7_size 54 = .ok (.ireturn, 1) := by decide +kernel
theorem dX7_size_55 : decode cX7_size 55 = .ok (.aload_n 0, 1) := by decide +kernel
theorem dX7_size_56 : decode cX7_size 56 = .ok (.iload_n 1, 1) := by decide +kernel
theorem dX7_size_57 : decode cX7_size 57 = .ok (.iload_n 2, 1) := by decide +kernel
theorem dX7_size_58 : decode cX7_size 58 = .ok (.iconst 5, 1) := by decide +kernel
theorem dX7_size_59 : decode cX7_size 59 = .ok (.if_icmp .ne 7, 3) := by decide +kernel
theorem dX7_size_62 : decode cX7_size 62 = .ok (.iconst 1, 1) := by decide +kernel
theorem dX7_size_63 : decode cX7_size 63 = .ok (.goto 4, 3) := by decide +kernel
theorem dX7_size_66 : decode cX7_size 66 = .ok (.iconst 0, 1) := by decide +kernel
theorem dX7_size_67 : decode cX7_size 67 = .ok (.invokevirtual 237, 3) := by decide +kernel
theorem dX7_size_70 : decode cX7_size 70 = .ok (.ireturn, 1) := by decide +kernel
theorem dX7_ask_0 : decode cX7_ask 0 = .ok (.aload_n 0, 1) := by decide +kernel
theorem dX7_ask_1 : decode cX7_ask 1 = .ok (.iload_n 1, 1) := by decide +kernel
theorem dX7_ask_2 : decode cX7_ask 2 = .ok (.invokevirtual 158, 3) := by decide +kernel
theorem dX7_ask_5 : decode cX7_ask 5 = .ok (.ifCond .eq 13, 3) := by decide +kernel
theorem dX7_ask_8 : decode cX7_ask 8 = .ok (.iload_n 2, 1) := by decide +kernel
theorem dX7_ask_9 : decode cX7_ask 9 = .ok (.i2l, 1) := by decide +kernel
theorem dX7_ask_10 : decode cX7_ask 10 = .ok (.lconst 0, 1) := by decide +kernel
theorem dX7_ask_11 : decode cX7_ask 11 = .ok (.lconst 1, 1) := by decide +kernel
theorem dX7_ask_12 : decode cX7_ask 12 = .ok (.invokestatic 45, 3) := by decide +kernel
theorem dX7_ask_15 : decode cX7_ask 15 = .ok (.ifCond .ne 6, 3) := by decide +kernel
theorem dX7_ask_18 : decode cX7_ask 18 = .ok (.ldc 55, 2) := by decide +kernel
theorem dX7_ask_20 : decode cX7_ask 20 = .ok (.ireturn, 1) := by decide +kernel
theorem dX7_ask_21 : decode cX7_ask 21 = .ok (.aload_n 0, 1) := by decide +kernel
theorem dX7_ask_22 : decode cX7_ask 22 = .ok (.iconst 0, 1) := by decide +kernel
theorem dX7_ask_23 : decode cX7_ask 23 = .ok (.putfield 225, 3) := by decide +kernel
theorem dX7_ask_26 : decode cX7_ask 26 = .ok (.iload_n 2, 1) := by decide +kernel
theorem dX7_ask_27 : decode cX7_ask 27 = .ok (.ifCond .ne 11, 3) := by decide +kernel
theorem dX7_ask_30 : decode cX7_ask 30 = .ok (.aload_n 0, 1) := by decide +kernel
theorem dX7_ask_31 : decode cX7_ask 31 = .ok (.iload_n 1, 1) := by decide +kernel
theorem dX7_ask_32 : decode cX7_ask 32 = .ok (.invokevirtual 247, 3) := by decide +kernel
theorem dX7_ask_35 : decode cX7_ask 35 = .ok (.goto 8, 3) := by decide +kernel
theorem dX7_ask_38 : decode cX7_ask 38 = .ok (.aload_n 0, 1) := by decide +kernel
theorem dX7_ask_39 : decode cX7_ask 39 = .ok (.iload_n 1, 1) := by decide +kernel
theorem dX7_ask_40 : decode cX7_ask 40 = .ok (.invokevirtual 241, 3) := by decide +kernel
theorem dX7_ask_43 : decode cX7_ask 43 = .ok (.ireturn, 1) := by decide +kernel
theorem dX7_trace_0 : decode cX7_trace 0 = .ok (.iload_n 1, 1) := by decide +kernel
theorem dX7_trace_1 : decode cX7_trace 1 = .ok (.i2l, 1) := by decide +kernel
theorem dX7_trace_2 : decode cX7_trace 2 = .ok (.lconst 0, 1) := by decide +kernel
theorem dX7_trace_3 : decode cX7_trace 3 = .ok (.aload_n 0, 1) := by decide +kernel
theorem dX7_trace_4 : decode cX7_trace 4 = .ok (.getfield 225, 3) := by decide +kernel
theorem dX7_trace_7 : decode cX7_trace 7 = .ok (.iconst 1, 1) := by decide +kernel
theorem dX7_trace_8 : decode cX7_trace 8 = .ok (.isub, 1) := by decide +kernel
theorem dX7_trace_9 : decode cX7_trace 9 = .ok (.i2l, 1) := by decide +kernel
theorem dX7_trace_10 : decode cX7_trace 10 = .ok (.invokestatic 45, 3) := by decide +kernel
theorem dX7_trace_13 : decode cX7_trace 13 = .ok (.ifCond .eq 12, 3) := by decide +kernel
theorem dX7_trace_16 : decode cX7_trace 16 = .ok (.aload_n 0, 1) := by decide +kernel
theorem dX7_trace_17 : decode cX7_trace 17 = .ok (.getfield 32, 3) := by decide +kernel
theorem dX7_trace_20 : decode cX7_trace 20 = .ok (.iload_n 1, 1) := by decide +kernel
theorem dX7_trace_21 : decode cX7_trace 21 = .ok (.iaload, 1) := by decide +kernel
theorem dX7_trace_22 : decode cX7_trace 22 = .ok (.goto 5, 3) := by decide +kernel
theorem dX7_trace_25 : decode cX7_trace 25 = .ok (.ldc 180, 2) := by decide +kernel
theorem dX7_trace_27 : decode cX7_trace 27 = .ok (.ireturn, 1) := by decide +kernel
theorem dX7_earnedOfAll_0 : decode cX7_earnedOfAll 0 = .ok (.iconst 0, 1) := by decide +kernel
theorem dX7_earnedOfAll_1 : decode cX7_earnedOfAll 1 = .ok (.istore_n 1, 1) := by decide +kernel
theorem dX7_earnedOfAll_2 : decode cX7_earnedOfAll 2 = .ok (.iconst 0, 1) := by decide +kernel
theorem dX7_earnedOfAll_3 : decode cX7_earnedOfAll 3 = .ok (.istore_n 2, 1) := by decide +kernel
theorem dX7_earnedOfAll_4 : decode cX7_earnedOfAll 4 = .ok (.iload_n 2, 1) := by decide +kernel
theorem dX7_earnedOfAll_5 : decode cX7_earnedOfAll 5 = .ok (.aload_n 0, 1) := by decide +kernel
theorem dX7_earnedOfAll_6 : decode cX7_earnedOfAll 6 = .ok (.getfield 7, 3) := by decide +kernel
theorem dX7_earnedOfAll_9 : decode cX7_earnedOfAll 9 = .ok (.bipush 22, 2) := by decide +kernel
theorem dX7_earnedOfAll_11 : decode cX7_earnedOfAll 11 = .ok (.iaload, 1) := by decide +kernel
theorem dX7_earnedOfAll_12 : decode cX7_earnedOfAll 12 = .ok (.if_icmp .ge 21, 3) := by decide +kernel
theorem dX7_earnedOfAll_15 : decode cX7_earnedOfAll 15 = .ok (.iload_n 1, 1) := by decide +kernel
theorem dX7_earnedOfAll_16 : decode cX7_earnedOfAll 16 = .ok (.aload_n 0, 1) := by decide +kernel
theorem dX7_earnedOfAll_17 : decode cX7_earnedOfAll 17 = .ok (.getfield 7, 3) := by decide +kernel
theorem dX7_earnedOfAll_20 : decode cX7_earnedOfAll 20 = .ok (.bipush 14, 2) := by decide +kernel
theorem dX7_earnedOfAll_22 : decode cX7_earnedOfAll 22 = .ok (.iload_n 2, 1) := by decide +kernel
theorem dX7_earnedOfAll_23 : decode cX7_earnedOfAll 23 = .ok (.iadd, 1) := by decide +kernel
theorem dX7_earnedOfAll_24 : decode cX7_earnedOfAll 24 = .ok (.iaload, 1) := by decide +kernel
theorem dX7_earnedOfAll_25 : decode cX7_earnedOfAll 25 = .ok (.iadd, 1) := by decide +kernel
theorem dX7_earnedOfAll_26 : decode cX7_earnedOfAll 26 = .ok (.istore_n 1, 1) := by decide +kernel
theorem dX7_earnedOfAll_27 : decode cX7_earnedOfAll 27 = .ok (.iinc 2 1, 3) := by decide +kernel
theorem dX7_earnedOfAll_30 : decode cX7_earnedOfAll 30 = .ok (.goto (-26), 3) := by decide +kernel
theorem dX7_earnedOfAll_33 : decode cX7_earnedOfAll 33 = .ok (.iload_n 1, 1) := by decide +kernel
theorem dX7_earnedOfAll_34 : decode cX7_earnedOfAll 34 = .ok (.ireturn, 1) := by decide +kernel
theorem dX7_count_0 : decode cX7_count 0 = .ok (.iload_n 1, 1) := by decide +kernel
theorem dX7_count_1 : decode cX7_count 1 = .ok (.tableswitch 126 0 7 #[47, 82, 90, 98, 105, 111, 116, 121], 47) := by decide +kernel
theorem dX7_count_48 : decode cX7_count 48 = .ok (.iconst 0, 1) := by decide +kernel
theorem dX7_count_49 : decode cX7_count 49 = .ok (.istore_n 2, 1) := by decide +kernel
theorem dX7_count_50 : decode cX7_count 50 = .ok (.iconst 0, 1) := by decide +kernel
theorem dX7_count_51 : decode cX7_count 51 = .ok (.istore_n 3, 1) := by decide +kernel
theorem dX7_count_52 : decode cX7_count 52 = .ok (.iload_n 3, 1) := by decide +kernel
theorem dX7_count_53 : decode cX7_count 53 = .ok (.bipush 8, 2) := by decide +kernel
theorem dX7_count_55 : decode cX7_count 55 = .ok (.if_icmp .ge 26, 3) := by decide +kernel
theorem dX7_count_58 : decode cX7_count 58 = .ok (.iload_n 2, 1) := by decide +kernel
theorem dX7_count_59 : decode cX7_count 59 = .ok (.aload_n 0, 1) := by decide +kernel
theorem dX7_count_60 : decode cX7_count 60 = .ok (.getfield 23, 3) := by decide +kernel
theorem dX7_count_63 : decode cX7_count 63 = .ok (.iload_n 3, 1) := by decide +kernel
theorem dX7_count_64 : decode cX7_count 64 = .ok (.iaload, 1) := by decide +kernel
theorem dX7_count_65 : decode cX7_count 65 = .ok (.ifCond .ge 7, 3) := by decide +kernel
theorem dX7_count_68 : decode cX7_count 68 = .ok (.iconst 0, 1) := by decide +kernel
theorem dX7_count_69 : decode cX7_count 69 = .ok (.goto 4, 3) := by decide +kernel
theorem dX7_count_72 : decode cX7_count 72 = .ok (.iconst 1, 1) := by decide +kernel
theorem dX7_count_73 : decode cX7_count 73 = .ok (.iadd, 1) := by decide +kernel
theorem dX7_count_74 : decode cX7_count 74 = .ok (.istore_n 2, 1) := by decide +kernel
theorem dX7_count_75 : decode cX7_count 75 = .ok (.iinc 3 1, 3) := by decide +kernel
theorem dX7_count_78 : decode cX7_count 78 = .ok (.goto (-26), 3) := by decide +kernel
theorem dX7_count_81 : decode cX7_count 81 = .ok (.iload_n 2, 1) := by decide +kernel
theorem dX7_count_82 : decode cX7_count 82 = .ok (.ireturn, 1) := by decide +kernel
theorem dX7_count_83 : decode cX7_count 83 = .ok (.aload_n 0, 1) := by decide +kernel
theorem dX7_count_84 : decode cX7_count 84 = .ok (.getfield 7, 3) := by decide +kernel
theorem dX7_count_87 : decode cX7_count 87 = .ok (.bipush 21, 2) := by decide +kernel
theorem dX7_count_89 : decode cX7_count 89 = .ok (.iaload, 1) := by decide +kernel
theorem dX7_count_90 : decode cX7_count 90 = .ok (.ireturn, 1) := by decide +kernel
theorem dX7_count_91 : decode cX7_count 91 = .ok (.aload_n 0, 1) := by decide +kernel
theorem dX7_count_92 : decode cX7_count 92 = .ok (.getfield 7, 3) := by decide +kernel
theorem dX7_count_95 : decode cX7_count 95 = .ok (.bipush 22, 2) := by decide +kernel
theorem dX7_count_97 : decode cX7_count 97 = .ok (.iaload, 1) := by decide +kernel
theorem dX7_count_98 : decode cX7_count 98 = .ok (.ireturn, 1) := by decide +kernel
theorem dX7_count_99 : decode cX7_count 99 = .ok (.aload_n 0, 1) := by decide +kernel
theorem dX7_count_100 : decode cX7_count 100 = .ok (.getfield 7, 3) := by decide +kernel
theorem dX7_count_103 : decode cX7_count 103 = .ok (.iconst 0, 1) := by decide +kernel
theorem dX7_count_104 : decode cX7_count 104 = .ok (.iaload, 1) := by decide +kernel
theorem dX7_count_105 : decode cX7_count 105 = .ok (.ireturn, 1) := by decide +kernel
theorem dX7_count_106 : decode cX7_count 106 = .ok (.aload_n 0, 1) := by decide +kernel
theorem dX7_count_107 : decode cX7_count 107 = .ok (.iconst 0, 1) := by decide +kernel
theorem dX7_count_108 : decode cX7_count 108 = .ok (.invokevirtual 155, 3) := by decide +kernel
theorem dX7_count_111 : decode cX7_count 111 = .ok (.ireturn, 1) := by decide +kernel
theorem dX7_count_112 : decode cX7_count 112 = .ok (.aload_n 0, 1) := by decide +kernel
theorem dX7_count_113 : decode cX7_count 113 = .ok (.invokevirtual 250, 3) := by decide +kernel
theorem dX7_count_116 : decode cX7_count 116 = .ok (.ireturn, 1) := by decide +kernel
theorem dX7_count_117 : decode cX7_count 117 = .ok (.aload_n 0, 1) := by decide +kernel
theorem dX7_count_118 : decode cX7_count 118 = .ok (.getfield 123, 3) := by decide +kernel
theorem dX7_count_121 : decode cX7_count 121 = .ok (.ireturn, 1) := by decide +kernel
theorem dX7_count_122 : decode cX7_count 122 = .ok (.aload_n 0, 1) := by decide +kernel
theorem dX7_count_123 : decode cX7_count 123 = .ok (.getfield 69, 3) := by decide +kernel
theorem dX7_count_126 : decode cX7_count 126 = .ok (.ireturn, 1) := by decide +kernel
theorem dX7_count_127 : decode cX7_count 127 = .ok (.ldc 55, 2) := by decide +kernel
theorem dX7_count_129 : decode cX7_count 129 = .ok (.ireturn, 1) := by decide +kernel
theorem dX7_status_0 : decode cX7_status 0 = .ok (.aload_n 0, 1) := by decide +kernel
theorem dX7_status_1 : decode cX7_status 1 = .ok (.getfield 38, 3) := by decide +kernel
theorem dX7_status_4 : decode cX7_status 4 = .ok (.ireturn, 1) := by decide +kernel
theorem dJ6_numberOfTrailingZeros_0f7a4_0 : decode cJ6_numberOfTrailingZeros_0f7a4 0 = .ok (.iload_n 0, 1) := by decide +kernel
theorem dJ6_numberOfTrailingZeros_0f7a4_1 : decode cJ6_numberOfTrailingZeros_0f7a4 1 = .ok (.iconst (-1), 1) := by decide +kernel
theorem dJ6_numberOfTrailingZeros_0f7a4_2 : decode cJ6_numberOfTrailingZeros_0f7a4 2 = .ok (.ixor, 1) := by decide +kernel
theorem dJ6_numberOfTrailingZeros_0f7a4_3 : decode cJ6_numberOfTrailingZeros_0f7a4 3 = .ok (.iload_n 0, 1) := by decide +kernel
theorem dJ6_numberOfTrailingZeros_0f7a4_4 : decode cJ6_numberOfTrailingZeros_0f7a4 4 = .ok (.iconst 1, 1) := by decide +kernel
theorem dJ6_numberOfTrailingZeros_0f7a4_5 : decode cJ6_numberOfTrailingZeros_0f7a4 5 = .ok (.isub, 1) := by decide +kernel
theorem dJ6_numberOfTrailingZeros_0f7a4_6 : decode cJ6_numberOfTrailingZeros_0f7a4 6 = .ok (.iand, 1) := by decide +kernel
theorem dJ6_numberOfTrailingZeros_0f7a4_7 : decode cJ6_numberOfTrailingZeros_0f7a4 7 = .ok (.istore_n 0, 1) := by decide +kernel
theorem dJ6_numberOfTrailingZeros_0f7a4_8 : decode cJ6_numberOfTrailingZeros_0f7a4 8 = .ok (.iload_n 0, 1) := by decide +kernel
theorem dJ6_numberOfTrailingZeros_0f7a4_9 : decode cJ6_numberOfTrailingZeros_0f7a4 9 = .ok (.ifCond .gt 8, 3) := by decide +kernel
theorem dJ6_numberOfTrailingZeros_0f7a4_12 : decode cJ6_numberOfTrailingZeros_0f7a4 12 = .ok (.iload_n 0, 1) := by decide +kernel
theorem dJ6_numberOfTrailingZeros_0f7a4_13 : decode cJ6_numberOfTrailingZeros_0f7a4 13 = .ok (.bipush 32, 2) := by decide +kernel
theorem dJ6_numberOfTrailingZeros_0f7a4_15 : decode cJ6_numberOfTrailingZeros_0f7a4 15 = .ok (.iand, 1) := by decide +kernel
theorem dJ6_numberOfTrailingZeros_0f7a4_16 : decode cJ6_numberOfTrailingZeros_0f7a4 16 = .ok (.ireturn, 1) := by decide +kernel
theorem dJ6_numberOfTrailingZeros_0f7a4_17 : decode cJ6_numberOfTrailingZeros_0f7a4 17 = .ok (.iconst 1, 1) := by decide +kernel
theorem dJ6_numberOfTrailingZeros_0f7a4_18 : decode cJ6_numberOfTrailingZeros_0f7a4 18 = .ok (.istore_n 1, 1) := by decide +kernel
theorem dJ6_numberOfTrailingZeros_0f7a4_19 : decode cJ6_numberOfTrailingZeros_0f7a4 19 = .ok (.iload_n 0, 1) := by decide +kernel
theorem dJ6_numberOfTrailingZeros_0f7a4_20 : decode cJ6_numberOfTrailingZeros_0f7a4 20 = .ok (.ldc_w 264, 3) := by decide +kernel
theorem dJ6_numberOfTrailingZeros_0f7a4_23 : decode cJ6_numberOfTrailingZeros_0f7a4 23 = .ok (.if_icmp .le 11, 3) := by decide +kernel
theorem dJ6_numberOfTrailingZeros_0f7a4_26 : decode cJ6_numberOfTrailingZeros_0f7a4 26 = .ok (.iinc 1 16, 3) := by decide +kernel
theorem dJ6_numberOfTrailingZeros_0f7a4_29 : decode cJ6_numberOfTrailingZeros_0f7a4 29 = .ok (.iload_n 0, 1) := by decide +kernel
theorem dJ6_numberOfTrailingZeros_0f7a4_30 : decode cJ6_numberOfTrailingZeros_0f7a4 30 = .ok (.bipush 16, 2) := by decide +kernel
theorem dJ6_numberOfTrailingZeros_0f7a4_32 : decode cJ6_numberOfTrailingZeros_0f7a4 32 = .ok (.iushr, 1) := by decide +kernel
theorem dJ6_numberOfTrailingZeros_0f7a4_33 : decode cJ6_numberOfTrailingZeros_0f7a4 33 = .ok (.istore_n 0, 1) := by decide +kernel
theorem dJ6_numberOfTrailingZeros_0f7a4_34 : decode cJ6_numberOfTrailingZeros_0f7a4 34 = .ok (.iload_n 0, 1) := by decide +kernel
theorem dJ6_numberOfTrailingZeros_0f7a4_35 : decode cJ6_numberOfTrailingZeros_0f7a4 35 = .ok (.sipush 256, 3) := by decide +kernel
theorem dJ6_numberOfTrailingZeros_0f7a4_38 : decode cJ6_numberOfTrailingZeros_0f7a4 38 = .ok (.if_icmp .le 11, 3) := by decide +kernel
theorem dJ6_numberOfTrailingZeros_0f7a4_41 : decode cJ6_numberOfTrailingZeros_0f7a4 41 = .ok (.iinc 1 8, 3) := by decide +kernel
theorem dJ6_numberOfTrailingZeros_0f7a4_44 : decode cJ6_numberOfTrailingZeros_0f7a4 44 = .ok (.iload_n 0, 1) := by decide +kernel
theorem dJ6_numberOfTrailingZeros_0f7a4_45 : decode cJ6_numberOfTrailingZeros_0f7a4 45 = .ok (.bipush 8, 2) := by decide +kernel
theorem dJ6_numberOfTrailingZeros_0f7a4_47 : decode cJ6_numberOfTrailingZeros_0f7a4 47 = .ok (.iushr, 1) := by decide +kernel
theorem dJ6_numberOfTrailingZeros_0f7a4_48 : decode cJ6_numberOfTrailingZeros_0f7a4 48 = .ok (.istore_n 0, 1) := by decide +kernel
theorem dJ6_numberOfTrailingZeros_0f7a4_49 : decode cJ6_numberOfTrailingZeros_0f7a4 49 = .ok (.iload_n 0, 1) := by decide +kernel
theorem dJ6_numberOfTrailingZeros_0f7a4_50 : decode cJ6_numberOfTrailingZeros_0f7a4 50 = .ok (.bipush 16, 2) := by decide +kernel
theorem dJ6_numberOfTrailingZeros_0f7a4_52 : decode cJ6_numberOfTrailingZeros_0f7a4 52 = .ok (.if_icmp .le 10, 3) := by decide +kernel
theorem dJ6_numberOfTrailingZeros_0f7a4_55 : decode cJ6_numberOfTrailingZeros_0f7a4 55 = .ok (.iinc 1 4, 3) := by decide +kernel
theorem dJ6_numberOfTrailingZeros_0f7a4_58 : decode cJ6_numberOfTrailingZeros_0f7a4 58 = .ok (.iload_n 0, 1) := by decide +kernel
theorem dJ6_numberOfTrailingZeros_0f7a4_59 : decode cJ6_numberOfTrailingZeros_0f7a4 59 = .ok (.iconst 4, 1) := by decide +kernel
theorem dJ6_numberOfTrailingZeros_0f7a4_60 : decode cJ6_numberOfTrailingZeros_0f7a4 60 = .ok (.iushr, 1) := by decide +kernel
theorem dJ6_numberOfTrailingZeros_0f7a4_61 : decode cJ6_numberOfTrailingZeros_0f7a4 61 = .ok (.istore_n 0, 1) := by decide +kernel
theorem dJ6_numberOfTrailingZeros_0f7a4_62 : decode cJ6_numberOfTrailingZeros_0f7a4 62 = .ok (.iload_n 0, 1) := by decide +kernel
theorem dJ6_numberOfTrailingZeros_0f7a4_63 : decode cJ6_numberOfTrailingZeros_0f7a4 63 = .ok (.iconst 4, 1) := by decide +kernel
theorem dJ6_numberOfTrailingZeros_0f7a4_64 : decode cJ6_numberOfTrailingZeros_0f7a4 64 = .ok (.if_icmp .le 10, 3) := by decide +kernel
theorem dJ6_numberOfTrailingZeros_0f7a4_67 : decode cJ6_numberOfTrailingZeros_0f7a4 67 = .ok (.iinc 1 2, 3) := by decide +kernel
theorem dJ6_numberOfTrailingZeros_0f7a4_70 : decode cJ6_numberOfTrailingZeros_0f7a4 70 = .ok (.iload_n 0, 1) := by decide +kernel
theorem dJ6_numberOfTrailingZeros_0f7a4_71 : decode cJ6_numberOfTrailingZeros_0f7a4 71 = .ok (.iconst 2, 1) := by decide +kernel
theorem dJ6_numberOfTrailingZeros_0f7a4_72 : decode cJ6_numberOfTrailingZeros_0f7a4 72 = .ok (.iushr, 1) := by decide +kernel
theorem dJ6_numberOfTrailingZeros_0f7a4_73 : decode cJ6_numberOfTrailingZeros_0f7a4 73 = .ok (.istore_n 0, 1) := by decide +kernel
theorem dJ6_numberOfTrailingZeros_0f7a4_74 : decode cJ6_numberOfTrailingZeros_0f7a4 74 = .ok (.iload_n 1, 1) := by decide +kernel
theorem dJ6_numberOfTrailingZeros_0f7a4_75 : decode cJ6_numberOfTrailingZeros_0f7a4 75 = .ok (.iload_n 0, 1) := by decide +kernel
theorem dJ6_numberOfTrailingZeros_0f7a4_76 : decode cJ6_numberOfTrailingZeros_0f7a4 76 = .ok (.iconst 1, 1) := by decide +kernel
theorem dJ6_numberOfTrailingZeros_0f7a4_77 : decode cJ6_numberOfTrailingZeros_0f7a4 77 = .ok (.iushr, 1) := by decide +kernel
theorem dJ6_numberOfTrailingZeros_0f7a4_78 : decode cJ6_numberOfTrailingZeros_0f7a4 78 = .ok (.iadd, 1) := by decide +kernel
theorem dJ6_numberOfTrailingZeros_0f7a4_79 : decode cJ6_numberOfTrailingZeros_0f7a4 79 = .ok (.ireturn, 1) := by decide +kernel
theorem dJ6_bitCount_0f7a4_0 : decode cJ6_bitCount_0f7a4 0 = .ok (.iload_n 0, 1) := by decide +kernel
theorem dJ6_bitCount_0f7a4_1 : decode cJ6_bitCount_0f7a4 1 = .ok (.iload_n 0, 1) := by decide +kernel
theorem dJ6_bitCount_0f7a4_2 : decode cJ6_bitCount_0f7a4 2 = .ok (.iconst 1, 1) := by decide +kernel
theorem dJ6_bitCount_0f7a4_3 : decode cJ6_bitCount_0f7a4 3 = .ok (.iushr, 1) := by decide +kernel
theorem dJ6_bitCount_0f7a4_4 : decode cJ6_bitCount_0f7a4 4 = .ok (.ldc_w 265, 3) := by decide +kernel
theorem dJ6_bitCount_0f7a4_7 : decode cJ6_bitCount_0f7a4 7 = .ok (.iand, 1) := by decide +kernel
theorem dJ6_bitCount_0f7a4_8 : decode cJ6_bitCount_0f7a4 8 = .ok (.isub, 1) := by decide +kernel
theorem dJ6_bitCount_0f7a4_9 : decode cJ6_bitCount_0f7a4 9 = .ok (.istore_n 0, 1) := by decide +kernel
theorem dJ6_bitCount_0f7a4_10 : decode cJ6_bitCount_0f7a4 10 = .ok (.iload_n 0, 1) := by decide +kernel
theorem dJ6_bitCount_0f7a4_11 : decode cJ6_bitCount_0f7a4 11 = .ok (.ldc_w 266, 3) := by decide +kernel
theorem dJ6_bitCount_0f7a4_14 : decode cJ6_bitCount_0f7a4 14 = .ok (.iand, 1) := by decide +kernel
theorem dJ6_bitCount_0f7a4_15 : decode cJ6_bitCount_0f7a4 15 = .ok (.iload_n 0, 1) := by decide +kernel
theorem dJ6_bitCount_0f7a4_16 : decode cJ6_bitCount_0f7a4 16 = .ok (.iconst 2, 1) := by decide +kernel
theorem dJ6_bitCount_0f7a4_17 : decode cJ6_bitCount_0f7a4 17 = .ok (.iushr, 1) := by decide +kernel
theorem dJ6_bitCount_0f7a4_18 : decode cJ6_bitCount_0f7a4 18 = .ok (.ldc_w 266, 3) := by decide +kernel
theorem dJ6_bitCount_0f7a4_21 : decode cJ6_bitCount_0f7a4 21 = .ok (.iand, 1) := by decide +kernel
theorem dJ6_bitCount_0f7a4_22 : decode cJ6_bitCount_0f7a4 22 = .ok (.iadd, 1) := by decide +kernel
theorem dJ6_bitCount_0f7a4_23 : decode cJ6_bitCount_0f7a4 23 = .ok (.istore_n 0, 1) := by decide +kernel
theorem dJ6_bitCount_0f7a4_24 : decode cJ6_bitCount_0f7a4 24 = .ok (.iload_n 0, 1) := by decide +kernel
theorem dJ6_bitCount_0f7a4_25 : decode cJ6_bitCount_0f7a4 25 = .ok (.iload_n 0, 1) := by decide +kernel
theorem dJ6_bitCount_0f7a4_26 : decode cJ6_bitCount_0f7a4 26 = .ok (.iconst 4, 1) := by decide +kernel
theorem dJ6_bitCount_0f7a4_27 : decode cJ6_bitCount_0f7a4 27 = .ok (.iushr, 1) := by decide +kernel
theorem dJ6_bitCount_0f7a4_28 : decode cJ6_bitCount_0f7a4 28 = .ok (.iadd, 1) := by decide +kernel
theorem dJ6_bitCount_0f7a4_29 : decode cJ6_bitCount_0f7a4 29 = .ok (.ldc_w 267, 3) := by decide +kernel
theorem dJ6_bitCount_0f7a4_32 : decode cJ6_bitCount_0f7a4 32 = .ok (.iand, 1) := by decide +kernel
theorem dJ6_bitCount_0f7a4_33 : decode cJ6_bitCount_0f7a4 33 = .ok (.istore_n 0, 1) := by decide +kernel
theorem dJ6_bitCount_0f7a4_34 : decode cJ6_bitCount_0f7a4 34 = .ok (.iload_n 0, 1) := by decide +kernel
theorem dJ6_bitCount_0f7a4_35 : decode cJ6_bitCount_0f7a4 35 = .ok (.iload_n 0, 1) := by decide +kernel
theorem dJ6_bitCount_0f7a4_36 : decode cJ6_bitCount_0f7a4 36 = .ok (.bipush 8, 2) := by decide +kernel
theorem dJ6_bitCount_0f7a4_38 : decode cJ6_bitCount_0f7a4 38 = .ok (.iushr, 1) := by decide +kernel
theorem dJ6_bitCount_0f7a4_39 : decode cJ6_bitCount_0f7a4 39 = .ok (.iadd, 1) := by decide +kernel
theorem dJ6_bitCount_0f7a4_40 : decode cJ6_bitCount_0f7a4 40 = .ok (.istore_n 0, 1) := by decide +kernel
theorem dJ6_bitCount_0f7a4_41 : decode cJ6_bitCount_0f7a4 41 = .ok (.iload_n 0, 1) := by decide +kernel
theorem dJ6_bitCount_0f7a4_42 : decode cJ6_bitCount_0f7a4 42 = .ok (.iload_n 0, 1) := by decide +kernel
theorem dJ6_bitCount_0f7a4_43 : decode cJ6_bitCount_0f7a4 43 = .ok (.bipush 16, 2) := by decide +kernel
theorem dJ6_bitCount_0f7a4_45 : decode cJ6_bitCount_0f7a4 45 = .ok (.iushr, 1) := by decide +kernel
theorem dJ6_bitCount_0f7a4_46 : decode cJ6_bitCount_0f7a4 46 = .ok (.iadd, 1) := by decide +kernel
theorem dJ6_bitCount_0f7a4_47 : decode cJ6_bitCount_0f7a4 47 = .ok (.istore_n 0, 1) := by decide +kernel
theorem dJ6_bitCount_0f7a4_48 : decode cJ6_bitCount_0f7a4 48 = .ok (.iload_n 0, 1) := by decide +kernel
theorem dJ6_bitCount_0f7a4_49 : decode cJ6_bitCount_0f7a4 49 = .ok (.bipush 63, 2) := by decide +kernel
theorem dJ6_bitCount_0f7a4_51 : decode cJ6_bitCount_0f7a4 51 = .ok (.iand, 1) := by decide +kernel
theorem dJ6_bitCount_0f7a4_52 : decode cJ6_bitCount_0f7a4 52 = .ok (.ireturn, 1) := by decide +kernel
theorem dJ9_max_7cf53_0 : decode cJ9_max_7cf53 0 = .ok (.iload_n 0, 1) := by decide +kernel
theorem dJ9_max_7cf53_1 : decode cJ9_max_7cf53 1 = .ok (.iload_n 1, 1) := by decide +kernel
theorem dJ9_max_7cf53_2 : decode cJ9_max_7cf53 2 = .ok (.if_icmp .lt 7, 3) := by decide +kernel
theorem dJ9_max_7cf53_5 : decode cJ9_max_7cf53 5 = .ok (.iload_n 0, 1) := by decide +kernel
theorem dJ9_max_7cf53_6 : decode cJ9_max_7cf53 6 = .ok (.goto 4, 3) := by decide +kernel
theorem dJ9_max_7cf53_9 : decode cJ9_max_7cf53 9 = .ok (.iload_n 1, 1) := by decide +kernel
theorem dJ9_max_7cf53_10 : decode cJ9_max_7cf53 10 = .ok (.ireturn, 1) := by decide +kernel
theorem dJ9_min_7cf53_0 : decode cJ9_min_7cf53 0 = .ok (.iload_n 0, 1) := by decide +kernel
theorem dJ9_min_7cf53_1 : decode cJ9_min_7cf53 1 = .ok (.iload_n 1, 1) := by decide +kernel
theorem dJ9_min_7cf53_2 : decode cJ9_min_7cf53 2 = .ok (.if_icmp .gt 7, 3) := by decide +kernel
theorem dJ9_min_7cf53_5 : decode cJ9_min_7cf53 5 = .ok (.iload_n 0, 1) := by decide +kernel
theorem dJ9_min_7cf53_6 : decode cJ9_min_7cf53 6 = .ok (.goto 4, 3) := by decide +kernel
theorem dJ9_min_7cf53_9 : decode cJ9_min_7cf53 9 = .ok (.iload_n 1, 1) := by decide +kernel
theorem dJ9_min_7cf53_10 : decode cJ9_min_7cf53 10 = .ok (.ireturn, 1) := by decide +kernel
theorem dL_law_0 : decode cL_law 0 = .ok (.new 7, 3) := by decide +kernel
theorem dL_law_3 : decode cL_law 3 = .ok (.dup, 1) := by decide +kernel
theorem dL_law_4 : decode cL_law 4 = .ok (.invokespecial 9, 3) := by decide +kernel
theorem dL_law_7 : decode cL_law 7 = .ok (.astore_n 1, 1) := by decide +kernel
theorem dL_law_8 : decode cL_law 8 = .ok (.new 10, 3) := by decide +kernel
theorem dL_law_11 : decode cL_law 11 = .ok (.dup, 1) := by decide +kernel
theorem dL_law_12 : decode cL_law 12 = .ok (.invokespecial 12, 3) := by decide +kernel
theorem dL_law_15 : decode cL_law 15 = .ok (.astore_n 2, 1) := by decide +kernel
theorem dL_law_16 : decode cL_law 16 = .ok (.iconst 0, 1) := by decide +kernel
theorem dL_law_17 : decode cL_law 17 = .ok (.istore_n 3, 1) := by decide +kernel
theorem dL_law_18 : decode cL_law 18 = .ok (.iload_n 3, 1) := by decide +kernel
theorem dL_law_19 : decode cL_law 19 = .ok (.aload_n 0, 1) := by decide +kernel
theorem dL_law_20 : decode cL_law 20 = .ok (.arraylength, 1) := by decide +kernel
theorem dL_law_21 : decode cL_law 21 = .ok (.bipush 6, 2) := by decide +kernel
theorem dL_law_23 : decode cL_law 23 = .ok (.isub, 1) := by decide +kernel
theorem dL_law_24 : decode cL_law 24 = .ok (.if_icmp .gt 1151, 3) := by decide +kernel
theorem dL_law_27 : decode cL_law 27 = .ok (.aload_n 0, 1) := by decide +kernel
theorem dL_law_28 : decode cL_law 28 = .ok (.iload_n 3, 1) := by decide +kernel
theorem dL_law_29 : decode cL_law 29 = .ok (.iaload, 1) := by decide +kernel
theorem dL_law_30 : decode cL_law 30 = .ok (.bipush 63, 2) := by decide +kernel
theorem dL_law_32 : decode cL_law 32 = .ok (.iand, 1) := by decide +kernel
theorem dL_law_33 : decode cL_law 33 = .ok (.tableswitch 1136 0 32 #[147, 190, 233, 296, 319, 342, 355, 368, 391, 424, 457, 490, 503, 536, 569, 602, 635, 658, 681, 704, 717, 750, 793, 856, 899, 942, 965, 988, 1011, 1044, 1077, 1100, 1123], 147) := by decide +kernel
theorem dL_law_180 : decode cL_law 180 = .ok (.aload_n 1, 1) := by decide +kernel
theorem dL_law_181 : decode cL_law 181 = .ok (.aload_n 0, 1) := by decide +kernel
theorem dL_law_182 : decode cL_law 182 = .ok (.iload_n 3, 1) := by decide +kernel
theorem dL_law_183 : decode cL_law 183 = .ok (.iconst 1, 1) := by decide +kernel
theorem dL_law_184 : decode cL_law 184 = .ok (.iadd, 1) := by decide +kernel
theorem dL_law_185 : decode cL_law 185 = .ok (.iaload, 1) := by decide +kernel
theorem dL_law_186 : decode cL_law 186 = .ok (.aload_n 0, 1) := by decide +kernel
theorem dL_law_187 : decode cL_law 187 = .ok (.iload_n 3, 1) := by decide +kernel
theorem dL_law_188 : decode cL_law 188 = .ok (.iconst 2, 1) := by decide +kernel
theorem dL_law_189 : decode cL_law 189 = .ok (.iadd, 1) := by decide +kernel
theorem dL_law_190 : decode cL_law 190 = .ok (.iaload, 1) := by decide +kernel
theorem dL_law_191 : decode cL_law 191 = .ok (.aload_n 0, 1) := by decide +kernel
theorem dL_law_192 : decode cL_law 192 = .ok (.iload_n 3, 1) := by decide +kernel
theorem dL_law_193 : decode cL_law 193 = .ok (.iconst 3, 1) := by decide +kernel
theorem dL_law_194 : decode cL_law 194 = .ok (.iadd, 1) := by decide +kernel
theorem dL_law_195 : decode cL_law 195 = .ok (.iaload, 1) := by decide +kernel
theorem dL_law_196 : decode cL_law 196 = .ok (.invokevirtual 13, 3) := by decide +kernel
theorem dL_law_199 : decode cL_law 199 = .ok (.aload_n 2, 1) := by decide +kernel
theorem dL_law_200 : decode cL_law 200 = .ok (.aload_n 0, 1) := by decide +kernel
theorem dL_law_201 : decode cL_law 201 = .ok (.iload_n 3, 1) := by decide +kernel
theorem dL_law_202 : decode cL_law 202 = .ok (.iconst 1, 1) := by decide +kernel
theorem dL_law_203 : decode cL_law 203 = .ok (.iadd, 1) := by decide +kernel
theorem dL_law_204 : decode cL_law 204 = .ok (.iaload, 1) := by decide +kernel
theorem dL_law_205 : decode cL_law 205 = .ok (.aload_n 0, 1) := by decide +kernel
theorem dL_law_206 : decode cL_law 206 = .ok (.iload_n 3, 1) := by decide +kernel
theorem dL_law_207 : decode cL_law 207 = .ok (.iconst 2, 1) := by decide +kernel
theorem dL_law_208 : decode cL_law 208 = .ok (.iadd, 1) := by decide +kernel
theorem dL_law_209 : decode cL_law 209 = .ok (.iaload, 1) := by decide +kernel
theorem dL_law_210 : decode cL_law 210 = .ok (.aload_n 0, 1) := by decide +kernel
theorem dL_law_211 : decode cL_law 211 = .ok (.iload_n 3, 1) := by decide +kernel
theorem dL_law_212 : decode cL_law 212 = .ok (.iconst 3, 1) := by decide +kernel
theorem dL_law_213 : decode cL_law 213 = .ok (.iadd, 1) := by decide +kernel
theorem dL_law_214 : decode cL_law 214 = .ok (.iaload, 1) := by decide +kernel
theorem dL_law_215 : decode cL_law 215 = .ok (.invokevirtual 17, 3) := by decide +kernel
theorem dL_law_218 : decode cL_law 218 = .ok (.if_icmp .eq 951, 3) := by decide +kernel
theorem dL_law_221 : decode cL_law 221 = .ok (.iconst 0, 1) := by decide +kernel
theorem dL_law_222 : decode cL_law 222 = .ok (.ireturn, 1) := by decide +kernel
theorem dL_law_223 : decode cL_law 223 = .ok (.aload_n 1, 1) := by decide +kernel
theorem dL_law_224 : decode cL_law 224 = .ok (.aload_n 0, 1) := by decide +kernel
theorem dL_law_225 : decode cL_law 225 = .ok (.iload_n 3, 1) := by decide +kernel
theorem dL_law_226 : decode cL_law 226 = .ok (.iconst 1, 1) := by decide +kernel
theorem dL_law_227 : decode cL_law 227 = .ok (.iadd, 1) := by decide +kernel
theorem dL_law_228 : decode cL_law 228 = .ok (.iaload, 1) := by decide +kernel
theorem dL_law_229 : decode cL_law 229 = .ok (.aload_n 0, 1) := by decide +kernel
theorem dL_law_230 : decode cL_law 230 = .ok (.iload_n 3, 1) := by decide +kernel
theorem dL_law_231 : decode cL_law 231 = .ok (.iconst 2, 1) := by decide +kernel
theorem dL_law_232 : decode cL_law 232 = .ok (.iadd, 1) := by decide +kernel
theorem dL_law_233 : decode cL_law 233 = .ok (.iaload, 1) := by decide +kernel
theorem dL_law_234 : decode cL_law 234 = .ok (.aload_n 0, 1) := by decide +kernel
theorem dL_law_235 : decode cL_law 235 = .ok (.iload_n 3, 1) := by decide +kernel
theorem dL_law_236 : decode cL_law 236 = .ok (.iconst 3, 1) := by decide +kernel
theorem dL_law_237 : decode cL_law 237 = .ok (.iadd, 1) := by decide +kernel
theorem dL_law_238 : decode cL_law 238 = .ok (.iaload, 1) := by decide +kernel
theorem dL_law_239 : decode cL_law 239 = .ok (.invokevirtual 18, 3) := by decide +kernel
theorem dL_law_242 : decode cL_law 242 = .ok (.aload_n 2, 1) := by decide +kernel
theorem dL_law_243 : decode cL_law 243 = .ok (.aload_n 0, 1) := by decide +kernel
theorem dL_law_244 : decode cL_law 244 = .ok (.iload_n 3, 1) := by decide +kernel
theorem dL_law_245 : decode cL_law 245 = .ok (.iconst 1, 1) := by decide +kernel
theorem dL_law_246 : decode cL_law 246 = .ok (.iadd, 1) := by decide +kernel
theorem dL_law_247 : decode cL_law 247 = .ok (.iaload, 1) := by decide +kernel
theorem dL_law_248 : decode cL_law 248 = .ok (.aload_n 0, 1) := by decide +kernel
theorem dL_law_249 : decode cL_law 249 = .ok (.iload_n 3, 1) := by decide +kernel
theorem dL_law_250 : decode cL_law 250 = .ok (.iconst 2, 1) := by decide +kernel
theorem dL_law_251 : decode cL_law 251 = .ok (.iadd, 1) := by decide +kernel
theorem dL_law_252 : decode cL_law 252 = .ok (.iaload, 1) := by decide +kernel
theorem dL_law_253 : decode cL_law 253 = .ok (.aload_n 0, 1) := by decide +kernel
theorem dL_law_254 : decode cL_law 254 = .ok (.iload_n 3, 1) := by decide +kernel
theorem dL_law_255 : decode cL_law 255 = .ok (.iconst 3, 1) := by decide +kernel
theorem dL_law_256 : decode cL_law 256 = .ok (.iadd, 1) := by decide +kernel
theorem dL_law_257 : decode cL_law 257 = .ok (.iaload, 1) := by decide +kernel
theorem dL_law_258 : decode cL_law 258 = .ok (.invokevirtual 21, 3) := by decide +kernel
theorem dL_law_261 : decode cL_law 261 = .ok (.if_icmp .eq 908, 3) := by decide +kernel
theorem dL_law_264 : decode cL_law 264 = .ok (.iconst 0, 1) := by decide +kernel
theorem dL_law_265 : decode cL_law 265 = .ok (.ireturn, 1) := by decide +kernel
theorem dL_law_266 : decode cL_law 266 = .ok (.aload_n 1, 1) := by decide +kernel
theorem dL_law_267 : decode cL_law 267 = .ok (.aload_n 0, 1) := by decide +kernel
theorem dL_law_268 : decode cL_law 268 = .ok (.iload_n 3, 1) := by decide +kernel
theorem dL_law_269 : decode cL_law 269 = .ok (.iconst 1, 1) := by decide +kernel
theorem dL_law_270 : decode cL_law 270 = .ok (.iadd, 1) := by decide +kernel
theorem dL_law_271 : decode cL_law 271 = .ok (.iaload, 1) := by decide +kernel
theorem dL_law_272 : decode cL_law 272 = .ok (.aload_n 0, 1) := by decide +kernel
theorem dL_law_273 : decode cL_law 273 = .ok (.iload_n 3, 1) := by decide +kernel
theorem dL_law_274 : decode cL_law 274 = .ok (.iconst 2, 1) := by decide +kernel
theorem dL_law_275 : decode cL_law 275 = .ok (.iadd, 1) := by decide +kernel
theorem dL_law_276 : decode cL_law 276 = .ok (.iaload, 1) := by decide +kernel
theorem dL_law_277 : decode cL_law 277 = .ok (.aload_n 0, 1) := by decide +kernel
theorem dL_law_278 : decode cL_law 278 = .ok (.iload_n 3, 1) := by decide +kernel
theorem dL_law_279 : decode cL_law 279 = .ok (.iconst 3, 1) := by decide +kernel
theorem dL_law_280 : decode cL_law 280 = .ok (.iadd, 1) := by decide +kernel
theorem dL_law_281 : decode cL_law 281 = .ok (.iaload, 1) := by decide +kernel
theorem dL_law_282 : decode cL_law 282 = .ok (.aload_n 0, 1) := by decide +kernel
theorem dL_law_283 : decode cL_law 283 = .ok (.iload_n 3, 1) := by decide +kernel
theorem dL_law_284 : decode cL_law 284 = .ok (.iconst 4, 1) := by decide +kernel
theorem dL_law_285 : decode cL_law 285 = .ok (.iadd, 1) := by decide +kernel
theorem dL_law_286 : decode cL_law 286 = .ok (.iaload, 1) := by decide +kernel
theorem dL_law_287 : decode cL_law 287 = .ok (.aload_n 0, 1) := by decide +kernel
theorem dL_law_288 : decode cL_law 288 = .ok (.iload_n 3, 1) := by decide +kernel
theorem dL_law_289 : decode cL_law 289 = .ok (.iconst 5, 1) := by decide +kernel
theorem dL_law_290 : decode cL_law 290 = .ok (.iadd, 1) := by decide +kernel
theorem dL_law_291 : decode cL_law 291 = .ok (.iaload, 1) := by decide +kernel
theorem dL_law_292 : decode cL_law 292 = .ok (.invokevirtual 22, 3) := by decide +kernel
theorem dL_law_295 : decode cL_law 295 = .ok (.aload_n 2, 1) := by decide +kernel
theorem dL_law_296 : decode cL_law 296 = .ok (.aload_n 0, 1) := by decide +kernel
theorem dL_law_297 : decode cL_law 297 = .ok (.iload_n 3, 1) := by decide +kernel
theorem dL_law_298 : decode cL_law 298 = .ok (.iconst 1, 1) := by decide +kernel
theorem dL_law_299 : decode cL_law 299 = .ok (.iadd, 1) := by decide +kernel
theorem dL_law_300 : decode cL_law 300 = .ok (.iaload, 1) := by decide +kernel
theorem dL_law_301 : decode cL_law 301 = .ok (.aload_n 0, 1) := by decide +kernel
theorem dL_law_302 : decode cL_law 302 = .ok (.iload_n 3, 1) := by decide +kernel
theorem dL_law_303 : decode cL_law 303 = .ok (.iconst 2, 1) := by decide +kernel
theorem dL_law_304 : decode cL_law 304 = .ok (.iadd, 1) := by decide +kernel
theorem dL_law_305 : decode cL_law 305 = .ok (.iaload, 1) := by decide +kernel
theorem dL_law_306 : decode cL_law 306 = .ok (.aload_n 0, 1) := by decide +kernel
theorem dL_law_307 : decode cL_law 307 = .ok (.iload_n 3, 1) := by decide +kernel
theorem dL_law_308 : decode cL_law 308 = .ok (.iconst 3, 1) := by decide +kernel
theorem dL_law_309 : decode cL_law 309 = .ok (.iadd, 1) := by decide +kernel
theorem dL_law_310 : decode cL_law 310 = .ok (.iaload, 1) := by decide +kernel
theorem dL_law_311 : decode cL_law 311 = .ok (.aload_n 0, 1) := by decide +kernel
theorem dL_law_312 : decode cL_law 312 = .ok (.iload_n 3, 1) := by decide +kernel
theorem dL_law_313 : decode cL_law 313 = .ok (.iconst 4, 1) := by decide +kernel
theorem dL_law_314 : decode cL_law 314 = .ok (.iadd, 1) := by decide +kernel
theorem dL_law_315 : decode cL_law 315 = .ok (.iaload, 1) := by decide +kernel
theorem dL_law_316 : decode cL_law 316 = .ok (.aload_n 0, 1) := by decide +kernel
theorem dL_law_317 : decode cL_law 317 = .ok (.iload_n 3, 1) := by decide +kernel
theorem dL_law_318 : decode cL_law 318 = .ok (.iconst 5, 1) := by decide +kernel
theorem dL_law_319 : decode cL_law 319 = .ok (.iadd, 1) := by decide +kernel
theorem dL_law_320 : decode cL_law 320 = .ok (.iaload, 1) := by decide +kernel
theorem dL_law_321 : decode cL_law 321 = .ok (.invokevirtual 26, 3) := by decide +kernel
theorem dL_law_324 : decode cL_law 324 = .ok (.if_icmp .eq 845, 3) := by decide +kernel
theorem dL_law_327 : decode cL_law 327 = .ok (.iconst 0, 1) := by decide +kernel
theorem dL_law_328 : decode cL_law 328 = .ok (.ireturn, 1) := by decide +kernel
theorem dL_law_329 : decode cL_law 329 = .ok (.aload_n 1, 1) := by decide +kernel
theorem dL_law_330 : decode cL_law 330 = .ok (.aload_n 0, 1) := by decide +kernel
theorem dL_law_331 : decode cL_law 331 = .ok (.iload_n 3, 1) := by decide +kernel
theorem dL_law_332 : decode cL_law 332 = .ok (.iconst 1, 1) := by decide +kernel
theorem dL_law_333 : decode cL_law 333 = .ok (.iadd, 1) := by decide +kernel
theorem dL_law_334 : decode cL_law 334 = .ok (.iaload, 1) := by decide +kernel
theorem dL_law_335 : decode cL_law 335 = .ok (.invokevirtual 27, 3) := by decide +kernel
theorem dL_law_338 : decode cL_law 338 = .ok (.aload_n 2, 1) := by decide +kernel
theorem dL_law_339 : decode cL_law 339 = .ok (.aload_n 0, 1) := by decide +kernel
theorem dL_law_340 : decode cL_law 340 = .ok (.iload_n 3, 1) := by decide +kernel
theorem dL_law_341 : decode cL_law 341 = .ok (.iconst 1, 1) := by decide +kernel
theorem dL_law_342 : decode cL_law 342 = .ok (.iadd, 1) := by decide +kernel
theorem dL_law_343 : decode cL_law 343 = .ok (.iaload, 1) := by decide +kernel
theorem dL_law_344 : decode cL_law 344 = .ok (.invokevirtual 31, 3) := by decide +kernel
theorem dL_law_347 : decode cL_law 347 = .ok (.if_icmp .eq 822, 3) := by decide +kernel
theorem dL_law_350 : decode cL_law 350 = .ok (.iconst 0, 1) := by decide +kernel
theorem dL_law_351 : decode cL_law 351 = .ok (.ireturn, 1) := by decide +kernel
theorem dL_law_352 : decode cL_law 352 = .ok (.aload_n 1, 1) := by decide +kernel
theorem dL_law_353 : decode cL_law 353 = .ok (.aload_n 0, 1) := by decide +kernel
theorem dL_law_354 : decode cL_law 354 = .ok (.iload_n 3, 1) := by decide +kernel
theorem dL_law_355 : decode cL_law 355 = .ok (.iconst 1, 1) := by decide +kernel
theorem dL_law_356 : decode cL_law 356 = .ok (.iadd, 1) := by decide +kernel
theorem dL_law_357 : decode cL_law 357 = .ok (.iaload, 1) := by decide +kernel
theorem dL_law_358 : decode cL_law 358 = .ok (.invokevirtual 32, 3) := by decide +kernel
theorem dL_law_361 : decode cL_law 361 = .ok (.aload_n 2, 1) := by decide +kernel
theorem dL_law_362 : decode cL_law 362 = .ok (.aload_n 0, 1) := by decide +kernel
theorem dL_law_363 : decode cL_law 363 = .ok (.iload_n 3, 1) := by decide +kernel
theorem dL_law_364 : decode cL_law 364 = .ok (.iconst 1, 1) := by decide +kernel
theorem dL_law_365 : decode cL_law 365 = .ok (.iadd, 1) := by decide +kernel
theorem dL_law_366 : decode cL_law 366 = .ok (.iaload, 1) := by decide +kernel
theorem dL_law_367 : decode cL_law 367 = .ok (.invokevirtual 35, 3) := by decide +kernel
theorem dL_law_370 : decode cL_law 370 = .ok (.if_icmp .eq 799, 3) := by decide +kernel
theorem dL_law_373 : decode cL_law 373 = .ok (.iconst 0, 1) := by decide +kernel
theorem dL_law_374 : decode cL_law 374 = .ok (.ireturn, 1) := by decide +kernel
theorem dL_law_375 : decode cL_law 375 = .ok (.aload_n 1, 1) := by decide +kernel
theorem dL_law_376 : decode cL_law 376 = .ok (.invokevirtual 36, 3) := by decide +kernel
theorem dL_law_379 : decode cL_law 379 = .ok (.aload_n 2, 1) := by decide +kernel
theorem dL_law_380 : decode cL_law 380 = .ok (.invokevirtual 40, 3) := by decide +kernel
theorem dL_law_383 : decode cL_law 383 = .ok (.if_icmp .eq 786, 3) := by decide +kernel
theorem dL_law_386 : decode cL_law 386 = .ok (.iconst 0, 1) := by decide +kernel
theorem dL_law_387 : decode cL_law 387 = .ok (.ireturn, 1) := by decide +kernel
theorem dL_law_388 : decode cL_law 388 = .ok (.aload_n 1, 1) := by decide +kernel
theorem dL_law_389 : decode cL_law 389 = .ok (.invokevirtual 41, 3) := by decide +kernel
theorem dL_law_392 : decode cL_law 392 = .ok (.aload_n 2, 1) := by decide +kernel
theorem dL_law_393 : decode cL_law 393 = .ok (.invokevirtual 44, 3) := by decide +kernel
theorem dL_law_396 : decode cL_law 396 = .ok (.if_icmp .eq 773, 3) := by decide +kernel
theorem dL_law_399 : decode cL_law 399 = .ok (.iconst 0, 1) := by decide +kernel
theorem dL_law_400 : decode cL_law 400 = .ok (.ireturn, 1) := by decide +kernel
theorem dL_law_401 : decode cL_law 401 = .ok (.aload_n 1, 1) := by decide +kernel
theorem dL_law_402 : decode cL_law 402 = .ok (.aload_n 0, 1) := by decide +kernel
theorem dL_law_403 : decode cL_law 403 = .ok (.iload_n 3, 1) := by decide +kernel
theorem dL_law_404 : decode cL_law 404 = .ok (.iconst 1, 1) := by decide +kernel
theorem dL_law_405 : decode cL_law 405 = .ok (.iadd, 1) := by decide +kernel
theorem dL_law_406 : decode cL_law 406 = .ok (.iaload, 1) := by decide +kernel
theorem dL_law_407 : decode cL_law 407 = .ok (.invokevirtual 45, 3) := by decide +kernel
theorem dL_law_410 : decode cL_law 410 = .ok (.aload_n 2, 1) := by decide +kernel
theorem dL_law_411 : decode cL_law 411 = .ok (.aload_n 0, 1) := by decide +kernel
theorem dL_law_412 : decode cL_law 412 = .ok (.iload_n 3, 1) := by decide +kernel
theorem dL_law_413 : decode cL_law 413 = .ok (.iconst 1, 1) := by decide +kernel
theorem dL_law_414 : decode cL_law 414 = .ok (.iadd, 1) := by decide +kernel
theorem dL_law_415 : decode cL_law 415 = .ok (.iaload, 1) := by decide +kernel
theorem dL_law_416 : decode cL_law 416 = .ok (.invokevirtual 48, 3) := by decide +kernel
theorem dL_law_419 : decode cL_law 419 = .ok (.if_icmp .eq 750, 3) := by decide +kernel
theorem dL_law_422 : decode cL_law 422 = .ok (.iconst 0, 1) := by decide +kernel
theorem dL_law_423 : decode cL_law 423 = .ok (.ireturn, 1) := by decide +kernel
theorem dL_law_424 : decode cL_law 424 = .ok (.aload_n 1, 1) := by decide +kernel
theorem dL_law_425 : decode cL_law 425 = .ok (.aload_n 0, 1) := by decide +kernel
theorem dL_law_426 : decode cL_law 426 = .ok (.iload_n 3, 1) := by decide +kernel
theorem dL_law_427 : decode cL_law 427 = .ok (.iconst 1, 1) := by decide +kernel
theorem dL_law_428 : decode cL_law 428 = .ok (.iadd, 1) := by decide +kernel
theorem dL_law_429 : decode cL_law 429 = .ok (.iaload, 1) := by decide +kernel
theorem dL_law_430 : decode cL_law 430 = .ok (.aload_n 0, 1) := by decide +kernel
theorem dL_law_431 : decode cL_law 431 = .ok (.iload_n 3, 1) := by decide +kernel
theorem dL_law_432 : decode cL_law 432 = .ok (.iconst 2, 1) := by decide +kernel
theorem dL_law_433 : decode cL_law 433 = .ok (.iadd, 1) := by decide +kernel
theorem dL_law_434 : decode cL_law 434 = .ok (.iaload, 1) := by decide +kernel
theorem dL_law_435 : decode cL_law 435 = .ok (.invokevirtual 49, 3) := by decide +kernel
theorem dL_law_438 : decode cL_law 438 = .ok (.aload_n 2, 1) := by decide +kernel
theorem dL_law_439 : decode cL_law 439 = .ok (.aload_n 0, 1) := by decide +kernel
theorem dL_law_440 : decode cL_law 440 = .ok (.iload_n 3, 1) := by decide +kernel
theorem dL_law_441 : decode cL_law 441 = .ok (.iconst 1, 1) := by decide +kernel
theorem dL_law_442 : decode cL_law 442 = .ok (.iadd, 1) := by decide +kernel
theorem dL_law_443 : decode cL_law 443 = .ok (.iaload, 1) := by decide +kernel
theorem dL_law_444 : decode cL_law 444 = .ok (.aload_n 0, 1) := by decide +kernel
theorem dL_law_445 : decode cL_law 445 = .ok (.iload_n 3, 1) := by decide +kernel
theorem dL_law_446 : decode cL_law 446 = .ok (.iconst 2, 1) := by decide +kernel
theorem dL_law_447 : decode cL_law 447 = .ok (.iadd, 1) := by decide +kernel
theorem dL_law_448 : decode cL_law 448 = .ok (.iaload, 1) := by decide +kernel
theorem dL_law_449 : decode cL_law 449 = .ok (.invokevirtual 53, 3) := by decide +kernel
theorem dL_law_452 : decode cL_law 452 = .ok (.if_icmp .eq 717, 3) := by decide +kernel
theorem dL_law_455 : decode cL_law 455 = .ok (.iconst 0, 1) := by decide +kernel
theorem dL_law_456 : decode cL_law 456 = .ok (.ireturn, 1) := by decide +kernel
theorem dL_law_457 : decode cL_law 457 = .ok (.aload_n 1, 1) := by decide +kernel
theorem dL_law_458 : decode cL_law 458 = .ok (.aload_n 0, 1) := by decide +kernel
theorem dL_law_459 : decode cL_law 459 = .ok (.iload_n 3, 1) := by decide +kernel
theorem dL_law_460 : decode cL_law 460 = .ok (.iconst 1, 1) := by decide +kernel
theorem dL_law_461 : decode cL_law 461 = .ok (.iadd, 1) := by decide +kernel
theorem dL_law_462 : decode cL_law 462 = .ok (.iaload, 1) := by decide +kernel
theorem dL_law_463 : decode cL_law 463 = .ok (.aload_n 0, 1) := by decide +kernel
theorem dL_law_464 : decode cL_law 464 = .ok (.iload_n 3, 1) := by decide +kernel
theorem dL_law_465 : decode cL_law 465 = .ok (.iconst 2, 1) := by decide +kernel
theorem dL_law_466 : decode cL_law 466 = .ok (.iadd, 1) := by decide +kernel
theorem dL_law_467 : decode cL_law 467 = .ok (.iaload, 1) := by decide +kernel
theorem dL_law_468 : decode cL_law 468 = .ok (.invokevirtual 54, 3) := by decide +kernel
theorem dL_law_471 : decode cL_law 471 = .ok (.aload_n 2, 1) := by decide +kernel
theorem dL_law_472 : decode cL_law 472 = .ok (.aload_n 0, 1) := by decide +kernel
theorem dL_law_473 : decode cL_law 473 = .ok (.iload_n 3, 1) := by decide +kernel
theorem dL_law_474 : decode cL_law 474 = .ok (.iconst 1, 1) := by decide +kernel
theorem dL_law_475 : decode cL_law 475 = .ok (.iadd, 1) := by decide +kernel
theorem dL_law_476 : decode cL_law 476 = .ok (.iaload, 1) := by decide +kernel
theorem dL_law_477 : decode cL_law 477 = .ok (.aload_n 0, 1) := by decide +kernel
theorem dL_law_478 : decode cL_law 478 = .ok (.iload_n 3, 1) := by decide +kernel
theorem dL_law_479 : decode cL_law 479 = .ok (.iconst 2, 1) := by decide +kernel
theorem dL_law_480 : decode cL_law 480 = .ok (.iadd, 1) := by decide +kernel
theorem dL_law_481 : decode cL_law 481 = .ok (.iaload, 1) := by decide +kernel
theorem dL_law_482 : decode cL_law 482 = .ok (.invokevirtual 57, 3) := by decide +kernel
theorem dL_law_485 : decode cL_law 485 = .ok (.if_icmp .eq 684, 3) := by decide +kernel
theorem dL_law_488 : decode cL_law 488 = .ok (.iconst 0, 1) := by decide +kernel
theorem dL_law_489 : decode cL_law 489 = .ok (.ireturn, 1) := by decide +kernel
theorem dL_law_490 : decode cL_law 490 = .ok (.aload_n 1, 1) := by decide +kernel
theorem dL_law_491 : decode cL_law 491 = .ok (.aload_n 0, 1) := by decide +kernel
theorem dL_law_492 : decode cL_law 492 = .ok (.iload_n 3, 1) := by decide +kernel
theorem dL_law_493 : decode cL_law 493 = .ok (.iconst 1, 1) := by decide +kernel
theorem dL_law_494 : decode cL_law 494 = .ok (.iadd, 1) := by decide +kernel
theorem dL_law_495 : decode cL_law 495 = .ok (.iaload, 1) := by decide +kernel
theorem dL_law_496 : decode cL_law 496 = .ok (.aload_n 0, 1) := by decide +kernel
theorem dL_law_497 : decode cL_law 497 = .ok (.iload_n 3, 1) := by decide +kernel
theorem dL_law_498 : decode cL_law 498 = .ok (.iconst 2, 1) := by decide +kernel
theorem dL_law_499 : decode cL_law 499 = .ok (.iadd, 1) := by decide +kernel
theorem dL_law_500 : decode cL_law 500 = .ok (.iaload, 1) := by decide +kernel
theorem dL_law_501 : decode cL_law 501 = .ok (.invokevirtual 58, 3) := by decide +kernel
theorem dL_law_504 : decode cL_law 504 = .ok (.aload_n 2, 1) := by decide +kernel
theorem dL_law_505 : decode cL_law 505 = .ok (.aload_n 0, 1) := by decide +kernel
theorem dL_law_506 : decode cL_law 506 = .ok (.iload_n 3, 1) := by decide +kernel
theorem dL_law_507 : decode cL_law 507 = .ok (.iconst 1, 1) := by decide +kernel
theorem dL_law_508 : decode cL_law 508 = .ok (.iadd, 1) := by decide +kernel
theorem dL_law_509 : decode cL_law 509 = .ok (.iaload, 1) := by decide +kernel
theorem dL_law_510 : decode cL_law 510 = .ok (.aload_n 0, 1) := by decide +kernel
theorem dL_law_511 : decode cL_law 511 = .ok (.iload_n 3, 1) := by decide +kernel
theorem dL_law_512 : decode cL_law 512 = .ok (.iconst 2, 1) := by decide +kernel
theorem dL_law_513 : decode cL_law 513 = .ok (.iadd, 1) := by decide +kernel
theorem dL_law_514 : decode cL_law 514 = .ok (.iaload, 1) := by decide +kernel
theorem dL_law_515 : decode cL_law 515 = .ok (.invokevirtual 61, 3) := by decide +kernel
theorem dL_law_518 : decode cL_law 518 = .ok (.if_icmp .eq 651, 3) := by decide +kernel
theorem dL_law_521 : decode cL_law 521 = .ok (.iconst 0, 1) := by decide +kernel
theorem dL_law_522 : decode cL_law 522 = .ok (.ireturn, 1) := by decide +kernel
theorem dL_law_523 : decode cL_law 523 = .ok (.aload_n 1, 1) := by decide +kernel
theorem dL_law_524 : decode cL_law 524 = .ok (.invokevirtual 62, 3) := by decide +kernel
theorem dL_law_527 : decode cL_law 527 = .ok (.aload_n 2, 1) := by decide +kernel
theorem dL_law_528 : decode cL_law 528 = .ok (.invokevirtual 65, 3) := by decide +kernel
theorem dL_law_531 : decode cL_law 531 = .ok (.if_icmp .eq 638, 3) := by decide +kernel
theorem dL_law_534 : decode cL_law 534 = .ok (.iconst 0, 1) := by decide +kernel
theorem dL_law_535 : decode cL_law 535 = .ok (.ireturn, 1) := by decide +kernel
theorem dL_law_536 : decode cL_law 536 = .ok (.aload_n 1, 1) := by decide +kernel
theorem dL_law_537 : decode cL_law 537 = .ok (.aload_n 0, 1) := by decide +kernel
theorem dL_law_538 : decode cL_law 538 = .ok (.iload_n 3, 1) := by decide +kernel
theorem dL_law_539 : decode cL_law 539 = .ok (.iconst 1, 1) := by decide +kernel
theorem dL_law_540 : decode cL_law 540 = .ok (.iadd, 1) := by decide +kernel
theorem dL_law_541 : decode cL_law 541 = .ok (.iaload, 1) := by decide +kernel
theorem dL_law_542 : decode cL_law 542 = .ok (.aload_n 0, 1) := by decide +kernel
theorem dL_law_543 : decode cL_law 543 = .ok (.iload_n 3, 1) := by decide +kernel
theorem dL_law_544 : decode cL_law 544 = .ok (.iconst 2, 1) := by decide +kernel
theorem dL_law_545 : decode cL_law 545 = .ok (.iadd, 1) := by decide +kernel
theorem dL_law_546 : decode cL_law 546 = .ok (.iaload, 1) := by decide +kernel
theorem dL_law_547 : decode cL_law 547 = .ok (.invokevirtual 66, 3) := by decide +kernel
theorem dL_law_550 : decode cL_law 550 = .ok (.aload_n 2, 1) := by decide +kernel
theorem dL_law_551 : decode cL_law 551 = .ok (.aload_n 0, 1) := by decide +kernel
theorem dL_law_552 : decode cL_law 552 = .ok (.iload_n 3, 1) := by decide +kernel
theorem dL_law_553 : decode cL_law 553 = .ok (.iconst 1, 1) := by decide +kernel
theorem dL_law_554 : decode cL_law 554 = .ok (.iadd, 1) := by decide +kernel
theorem dL_law_555 : decode cL_law 555 = .ok (.iaload, 1) := by decide +kernel
theorem dL_law_556 : decode cL_law 556 = .ok (.aload_n 0, 1) := by decide +kernel
theorem dL_law_557 : decode cL_law 557 = .ok (.iload_n 3, 1) := by decide +kernel
theorem dL_law_558 : decode cL_law 558 = .ok (.iconst 2, 1) := by decide +kernel
theorem dL_law_559 : decode cL_law 559 = .ok (.iadd, 1) := by decide +kernel
theorem dL_law_560 : decode cL_law 560 = .ok (.iaload, 1) := by decide +kernel
theorem dL_law_561 : decode cL_law 561 = .ok (.invokevirtual 69, 3) := by decide +kernel
theorem dL_law_564 : decode cL_law 564 = .ok (.if_icmp .eq 605, 3) := by decide +kernel
theorem dL_law_567 : decode cL_law 567 = .ok (.iconst 0, 1) := by decide +kernel
theorem dL_law_568 : decode cL_law 568 = .ok (.ireturn, 1) := by decide +kernel
theorem dL_law_569 : decode cL_law 569 = .ok (.aload_n 1, 1) := by decide +kernel
theorem dL_law_570 : decode cL_law 570 = .ok (.aload_n 0, 1) := by decide +kernel
theorem dL_law_571 : decode cL_law 571 = .ok (.iload_n 3, 1) := by decide +kernel
theorem dL_law_572 : decode cL_law 572 = .ok (.iconst 1, 1) := by decide +kernel
theorem dL_law_573 : decode cL_law 573 = .ok (.iadd, 1) := by decide +kernel
theorem dL_law_574 : decode cL_law 574 = .ok (.iaload, 1) := by decide +kernel
theorem dL_law_575 : decode cL_law 575 = .ok (.aload_n 0, 1) := by decide +kernel
theorem dL_law_576 : decode cL_law 576 = .ok (.iload_n 3, 1) := by decide +kernel
theorem dL_law_577 : decode cL_law 577 = .ok (.iconst 2, 1) := by decide +kernel
theorem dL_law_578 : decode cL_law 578 = .ok (.iadd, 1) := by decide +kernel
theorem dL_law_579 : decode cL_law 579 = .ok (.iaload, 1) := by decide +kernel
theorem dL_law_580 : decode cL_law 580 = .ok (.invokevirtual 70, 3) := by decide +kernel
theorem dL_law_583 : decode cL_law 583 = .ok (.aload_n 2, 1) := by decide +kernel
theorem dL_law_584 : decode cL_law 584 = .ok (.aload_n 0, 1) := by decide +kernel
theorem dL_law_585 : decode cL_law 585 = .ok (.iload_n 3, 1) := by decide +kernel
theorem dL_law_586 : decode cL_law 586 = .ok (.iconst 1, 1) := by decide +kernel
theorem dL_law_587 : decode cL_law 587 = .ok (.iadd, 1) := by decide +kernel
theorem dL_law_588 : decode cL_law 588 = .ok (.iaload, 1) := by decide +kernel
theorem dL_law_589 : decode cL_law 589 = .ok (.aload_n 0, 1) := by decide +kernel
theorem dL_law_590 : decode cL_law 590 = .ok (.iload_n 3, 1) := by decide +kernel
theorem dL_law_591 : decode cL_law 591 = .ok (.iconst 2, 1) := by decide +kernel
theorem dL_law_592 : decode cL_law 592 = .ok (.iadd, 1) := by decide +kernel
theorem dL_law_593 : decode cL_law 593 = .ok (.iaload, 1) := by decide +kernel
theorem dL_law_594 : decode cL_law 594 = .ok (.invokevirtual 73, 3) := by decide +kernel
theorem dL_law_597 : decode cL_law 597 = .ok (.if_icmp .eq 572, 3) := by decide +kernel
theorem dL_law_600 : decode cL_law 600 = .ok (.iconst 0, 1) := by decide +kernel
theorem dL_law_601 : decode cL_law 601 = .ok (.ireturn, 1) := by decide +kernel
theorem dL_law_602 : decode cL_law 602 = .ok (.aload_n 1, 1) := by decide +kernel
theorem dL_law_603 : decode cL_law 603 = .ok (.aload_n 0, 1) := by decide +kernel
theorem dL_law_604 : decode cL_law 604 = .ok (.iload_n 3, 1) := by decide +kernel
theorem dL_law_605 : decode cL_law 605 = .ok (.iconst 1, 1) := by decide +kernel
theorem dL_law_606 : decode cL_law 606 = .ok (.iadd, 1) := by decide +kernel
theorem dL_law_607 : decode cL_law 607 = .ok (.iaload, 1) := by decide +kernel
theorem dL_law_608 : decode cL_law 608 = .ok (.aload_n 0, 1) := by decide +kernel
theorem dL_law_609 : decode cL_law 609 = .ok (.iload_n 3, 1) := by decide +kernel
theorem dL_law_610 : decode cL_law 610 = .ok (.iconst 2, 1) := by decide +kernel
theorem dL_law_611 : decode cL_law 611 = .ok (.iadd, 1) := by decide +kernel
theorem dL_law_612 : decode cL_law 612 = .ok (.iaload, 1) := by decide +kernel
theorem dL_law_613 : decode cL_law 613 = .ok (.invokevirtual 74, 3) := by decide +kernel
theorem dL_law_616 : decode cL_law 616 = .ok (.aload_n 2, 1) := by decide +kernel
theorem dL_law_617 : decode cL_law 617 = .ok (.aload_n 0, 1) := by decide +kernel
theorem dL_law_618 : decode cL_law 618 = .ok (.iload_n 3, 1) := by decide +kernel
theorem dL_law_619 : decode cL_law 619 = .ok (.iconst 1, 1) := by decide +kernel
theorem dL_law_620 : decode cL_law 620 = .ok (.iadd, 1) := by decide +kernel
theorem dL_law_621 : decode cL_law 621 = .ok (.iaload, 1) := by decide +kernel
theorem dL_law_622 : decode cL_law 622 = .ok (.aload_n 0, 1) := by decide +kernel
theorem dL_law_623 : decode cL_law 623 = .ok (.iload_n 3, 1) := by decide +kernel
theorem dL_law_624 : decode cL_law 624 = .ok (.iconst 2, 1) := by decide +kernel
theorem dL_law_625 : decode cL_law 625 = .ok (.iadd, 1) := by decide +kernel
theorem dL_law_626 : decode cL_law 626 = .ok (.iaload, 1) := by decide +kernel
theorem dL_law_627 : decode cL_law 627 = .ok (.invokevirtual 77, 3) := by decide +kernel
theorem dL_law_630 : decode cL_law 630 = .ok (.if_icmp .eq 539, 3) := by decide +kernel
theorem dL_law_633 : decode cL_law 633 = .ok (.iconst 0, 1) := by decide +kernel
theorem dL_law_634 : decode cL_law 634 = .ok (.ireturn, 1) := by decide +kernel
theorem dL_law_635 : decode cL_law 635 = .ok (.aload_n 1, 1) := by decide +kernel
theorem dL_law_636 : decode cL_law 636 = .ok (.aload_n 0, 1) := by decide +kernel
theorem dL_law_637 : decode cL_law 637 = .ok (.iload_n 3, 1) := by decide +kernel
theorem dL_law_638 : decode cL_law 638 = .ok (.iconst 1, 1) := by decide +kernel
theorem dL_law_639 : decode cL_law 639 = .ok (.iadd, 1) := by decide +kernel
theorem dL_law_640 : decode cL_law 640 = .ok (.iaload, 1) := by decide +kernel
theorem dL_law_641 : decode cL_law 641 = .ok (.aload_n 0, 1) := by decide +kernel
theorem dL_law_642 : decode cL_law 642 = .ok (.iload_n 3, 1) := by decide +kernel
theorem dL_law_643 : decode cL_law 643 = .ok (.iconst 2, 1) := by decide +kernel
theorem dL_law_644 : decode cL_law 644 = .ok (.iadd, 1) := by decide +kernel
theorem dL_law_645 : decode cL_law 645 = .ok (.iaload, 1) := by decide +kernel
theorem dL_law_646 : decode cL_law 646 = .ok (.invokevirtual 78, 3) := by decide +kernel
theorem dL_law_649 : decode cL_law 649 = .ok (.aload_n 2, 1) := by decide +kernel
theorem dL_law_650 : decode cL_law 650 = .ok (.aload_n 0, 1) := by decide +kernel
theorem dL_law_651 : decode cL_law 651 = .ok (.iload_n 3, 1) := by decide +kernel
theorem dL_law_652 : decode cL_law 652 = .ok (.iconst 1, 1) := by decide +kernel
theorem dL_law_653 : decode cL_law 653 = .ok (.iadd, 1) := by decide +kernel
theorem dL_law_654 : decode cL_law 654 = .ok (.iaload, 1) := by decide +kernel
theorem dL_law_655 : decode cL_law 655 = .ok (.aload_n 0, 1) := by decide +kernel
theorem dL_law_656 : decode cL_law 656 = .ok (.iload_n 3, 1) := by decide +kernel
theorem dL_law_657 : decode cL_law 657 = .ok (.iconst 2, 1) := by decide +kernel
theorem dL_law_658 : decode cL_law 658 = .ok (.iadd, 1) := by decide +kernel
theorem dL_law_659 : decode cL_law 659 = .ok (.iaload, 1) := by decide +kernel
theorem dL_law_660 : decode cL_law 660 = .ok (.invokevirtual 81, 3) := by decide +kernel
theorem dL_law_663 : decode cL_law 663 = .ok (.if_icmp .eq 506, 3) := by decide +kernel
theorem dL_law_666 : decode cL_law 666 = .ok (.iconst 0, 1) := by decide +kernel
theorem dL_law_667 : decode cL_law 667 = .ok (.ireturn, 1) := by decide +kernel
theorem dL_law_668 : decode cL_law 668 = .ok (.aload_n 1, 1) := by decide +kernel
theorem dL_law_669 : decode cL_law 669 = .ok (.aload_n 0, 1) := by decide +kernel
theorem dL_law_670 : decode cL_law 670 = .ok (.iload_n 3, 1) := by decide +kernel
theorem dL_law_671 : decode cL_law 671 = .ok (.iconst 1, 1) := by decide +kernel
theorem dL_law_672 : decode cL_law 672 = .ok (.iadd, 1) := by decide +kernel
theorem dL_law_673 : decode cL_law 673 = .ok (.iaload, 1) := by decide +kernel
theorem dL_law_674 : decode cL_law 674 = .ok (.invokevirtual 82, 3) := by decide +kernel
theorem dL_law_677 : decode cL_law 677 = .ok (.aload_n 2, 1) := by decide +kernel
theorem dL_law_678 : decode cL_law 678 = .ok (.aload_n 0, 1) := by decide +kernel
theorem dL_law_679 : decode cL_law 679 = .ok (.iload_n 3, 1) := by decide +kernel
theorem dL_law_680 : decode cL_law 680 = .ok (.iconst 1, 1) := by decide +kernel
theorem dL_law_681 : decode cL_law 681 = .ok (.iadd, 1) := by decide +kernel
theorem dL_law_682 : decode cL_law 682 = .ok (.iaload, 1) := by decide +kernel
theorem dL_law_683 : decode cL_law 683 = .ok (.invokevirtual 85, 3) := by decide +kernel
theorem dL_law_686 : decode cL_law 686 = .ok (.if_icmp .eq 483, 3) := by decide +kernel
theorem dL_law_689 : decode cL_law 689 = .ok (.iconst 0, 1) := by decide +kernel
theorem dL_law_690 : decode cL_law 690 = .ok (.ireturn, 1) := by decide +kernel
theorem dL_law_691 : decode cL_law 691 = .ok (.aload_n 1, 1) := by decide +kernel
theorem dL_law_692 : decode cL_law 692 = .ok (.aload_n 0, 1) := by decide +kernel
theorem dL_law_693 : decode cL_law 693 = .ok (.iload_n 3, 1) := by decide +kernel
theorem dL_law_694 : decode cL_law 694 = .ok (.iconst 1, 1) := by decide +kernel
theorem dL_law_695 : decode cL_law 695 = .ok (.iadd, 1) := by decide +kernel
theorem dL_law_696 : decode cL_law 696 = .ok (.iaload, 1) := by decide +kernel
theorem dL_law_697 : decode cL_law 697 = .ok (.invokevirtual 86, 3) := by decide +kernel
theorem dL_law_700 : decode cL_law 700 = .ok (.aload_n 2, 1) := by decide +kernel
theorem dL_law_701 : decode cL_law 701 = .ok (.aload_n 0, 1) := by decide +kernel
theorem dL_law_702 : decode cL_law 702 = .ok (.iload_n 3, 1) := by decide +kernel
theorem dL_law_703 : decode cL_law 703 = .ok (.iconst 1, 1) := by decide +kernel
theorem dL_law_704 : decode cL_law 704 = .ok (.iadd, 1) := by decide +kernel
theorem dL_law_705 : decode cL_law 705 = .ok (.iaload, 1) := by decide +kernel
theorem dL_law_706 : decode cL_law 706 = .ok (.invokevirtual 89, 3) := by decide +kernel
theorem dL_law_709 : decode cL_law 709 = .ok (.if_icmp .eq 460, 3) := by decide +kernel
theorem dL_law_712 : decode cL_law 712 = .ok (.iconst 0, 1) := by decide +kernel
theorem dL_law_713 : decode cL_law 713 = .ok (.ireturn, 1) := by decide +kernel
theorem dL_law_714 : decode cL_law 714 = .ok (.aload_n 1, 1) := by decide +kernel
theorem dL_law_715 : decode cL_law 715 = .ok (.aload_n 0, 1) := by decide +kernel
theorem dL_law_716 : decode cL_law 716 = .ok (.iload_n 3, 1) := by decide +kernel
theorem dL_law_717 : decode cL_law 717 = .ok (.iconst 1, 1) := by decide +kernel
theorem dL_law_718 : decode cL_law 718 = .ok (.iadd, 1) := by decide +kernel
theorem dL_law_719 : decode cL_law 719 = .ok (.iaload, 1) := by decide +kernel
theorem dL_law_720 : decode cL_law 720 = .ok (.invokevirtual 90, 3) := by decide +kernel
theorem dL_law_723 : decode cL_law 723 = .ok (.aload_n 2, 1) := by decide +kernel
theorem dL_law_724 : decode cL_law 724 = .ok (.aload_n 0, 1) := by decide +kernel
theorem dL_law_725 : decode cL_law 725 = .ok (.iload_n 3, 1) := by decide +kernel
theorem dL_law_726 : decode cL_law 726 = .ok (.iconst 1, 1) := by decide +kernel
theorem dL_law_727 : decode cL_law 727 = .ok (.iadd, 1) := by decide +kernel
theorem dL_law_728 : decode cL_law 728 = .ok (.iaload, 1) := by decide +kernel
theorem dL_law_729 : decode cL_law 729 = .ok (.invokevirtual 93, 3) := by decide +kernel
theorem dL_law_732 : decode cL_law 732 = .ok (.if_icmp .eq 437, 3) := by decide +kernel
theorem dL_law_735 : decode cL_law 735 = .ok (.iconst 0, 1) := by decide +kernel
theorem dL_law_736 : decode cL_law 736 = .ok (.ireturn, 1) := by decide +kernel
theorem dL_law_737 : decode cL_law 737 = .ok (.aload_n 1, 1) := by decide +kernel
theorem dL_law_738 : decode cL_law 738 = .ok (.invokevirtual 94, 3) := by decide +kernel
theorem dL_law_741 : decode cL_law 741 = .ok (.aload_n 2, 1) := by decide +kernel
theorem dL_law_742 : decode cL_law 742 = .ok (.invokevirtual 97, 3) := by decide +kernel
theorem dL_law_745 : decode cL_law 745 = .ok (.if_icmp .eq 424, 3) := by decide +kernel
theorem dL_law_748 : decode cL_law 748 = .ok (.iconst 0, 1) := by decide +kernel
theorem dL_law_749 : decode cL_law 749 = .ok (.ireturn, 1) := by decide +kernel
theorem dL_law_750 : decode cL_law 750 = .ok (.aload_n 1, 1) := by decide +kernel
theorem dL_law_751 : decode cL_law 751 = .ok (.aload_n 0, 1) := by decide +kernel
theorem dL_law_752 : decode cL_law 752 = .ok (.iload_n 3, 1) := by decide +kernel
theorem dL_law_753 : decode cL_law 753 = .ok (.iconst 1, 1) := by decide +kernel
theorem dL_law_754 : decode cL_law 754 = .ok (.iadd, 1) := by decide +kernel
theorem dL_law_755 : decode cL_law 755 = .ok (.iaload, 1) := by decide +kernel
theorem dL_law_756 : decode cL_law 756 = .ok (.aload_n 0, 1) := by decide +kernel
theorem dL_law_757 : decode cL_law 757 = .ok (.iload_n 3, 1) := by decide +kernel
theorem dL_law_758 : decode cL_law 758 = .ok (.iconst 2, 1) := by decide +kernel
theorem dL_law_759 : decode cL_law 759 = .ok (.iadd, 1) := by decide +kernel
theorem dL_law_760 : decode cL_law 760 = .ok (.iaload, 1) := by decide +kernel
theorem dL_law_761 : decode cL_law 761 = .ok (.invokevirtual 98, 3) := by decide +kernel
theorem dL_law_764 : decode cL_law 764 = .ok (.aload_n 2, 1) := by decide +kernel
theorem dL_law_765 : decode cL_law 765 = .ok (.aload_n 0, 1) := by decide +kernel
theorem dL_law_766 : decode cL_law 766 = .ok (.iload_n 3, 1) := by decide +kernel
theorem dL_law_767 : decode cL_law 767 = .ok (.iconst 1, 1) := by decide +kernel
theorem dL_law_768 : decode cL_law 768 = .ok (.iadd, 1) := by decide +kernel
theorem dL_law_769 : decode cL_law 769 = .ok (.iaload, 1) := by decide +kernel
theorem dL_law_770 : decode cL_law 770 = .ok (.aload_n 0, 1) := by decide +kernel
theorem dL_law_771 : decode cL_law 771 = .ok (.iload_n 3, 1) := by decide +kernel
theorem dL_law_772 : decode cL_law 772 = .ok (.iconst 2, 1) := by decide +kernel
theorem dL_law_773 : decode cL_law 773 = .ok (.iadd, 1) := by decide +kernel
theorem dL_law_774 : decode cL_law 774 = .ok (.iaload, 1) := by decide +kernel
theorem dL_law_775 : decode cL_law 775 = .ok (.invokevirtual 101, 3) := by decide +kernel
theorem dL_law_778 : decode cL_law 778 = .ok (.if_icmp .eq 391, 3) := by decide +kernel
theorem dL_law_781 : decode cL_law 781 = .ok (.iconst 0, 1) := by decide +kernel
theorem dL_law_782 : decode cL_law 782 = .ok (.ireturn, 1) := by decide +kernel
theorem dL_law_783 : decode cL_law 783 = .ok (.aload_n 1, 1) := by decide +kernel
theorem dL_law_784 : decode cL_law 784 = .ok (.aload_n 0, 1) := by decide +kernel
theorem dL_law_785 : decode cL_law 785 = .ok (.iload_n 3, 1) := by decide +kernel
theorem dL_law_786 : decode cL_law 786 = .ok (.iconst 1, 1) := by decide +kernel
theorem dL_law_787 : decode cL_law 787 = .ok (.iadd, 1) := by decide +kernel
theorem dL_law_788 : decode cL_law 788 = .ok (.iaload, 1) := by decide +kernel
theorem dL_law_789 : decode cL_law 789 = .ok (.aload_n 0, 1) := by decide +kernel
theorem dL_law_790 : decode cL_law 790 = .ok (.iload_n 3, 1) := by decide +kernel
theorem dL_law_791 : decode cL_law 791 = .ok (.iconst 2, 1) := by decide +kernel
theorem dL_law_792 : decode cL_law 792 = .ok (.iadd, 1) := by decide +kernel
theorem dL_law_793 : decode cL_law 793 = .ok (.iaload, 1) := by decide +kernel
theorem dL_law_794 : decode cL_law 794 = .ok (.aload_n 0, 1) := by decide +kernel
theorem dL_law_795 : decode cL_law 795 = .ok (.iload_n 3, 1) := by decide +kernel
theorem dL_law_796 : decode cL_law 796 = .ok (.iconst 3, 1) := by decide +kernel
theorem dL_law_797 : decode cL_law 797 = .ok (.iadd, 1) := by decide +kernel
theorem dL_law_798 : decode cL_law 798 = .ok (.iaload, 1) := by decide +kernel
theorem dL_law_799 : decode cL_law 799 = .ok (.invokevirtual 102, 3) := by decide +kernel
theorem dL_law_802 : decode cL_law 802 = .ok (.aload_n 2, 1) := by decide +kernel
theorem dL_law_803 : decode cL_law 803 = .ok (.aload_n 0, 1) := by decide +kernel
theorem dL_law_804 : decode cL_law 804 = .ok (.iload_n 3, 1) := by decide +kernel
theorem dL_law_805 : decode cL_law 805 = .ok (.iconst 1, 1) := by decide +kernel
theorem dL_law_806 : decode cL_law 806 = .ok (.iadd, 1) := by decide +kernel
theorem dL_law_807 : decode cL_law 807 = .ok (.iaload, 1) := by decide +kernel
theorem dL_law_808 : decode cL_law 808 = .ok (.aload_n 0, 1) := by decide +kernel
theorem dL_law_809 : decode cL_law 809 = .ok (.iload_n 3, 1) := by decide +kernel
theorem dL_law_810 : decode cL_law 810 = .ok (.iconst 2, 1) := by decide +kernel
theorem dL_law_811 : decode cL_law 811 = .ok (.iadd, 1) := by decide +kernel
theorem dL_law_812 : decode cL_law 812 = .ok (.iaload, 1) := by decide +kernel
theorem dL_law_813 : decode cL_law 813 = .ok (.aload_n 0, 1) := by decide +kernel
theorem dL_law_814 : decode cL_law 814 = .ok (.iload_n 3, 1) := by decide +kernel
theorem dL_law_815 : decode cL_law 815 = .ok (.iconst 3, 1) := by decide +kernel
theorem dL_law_816 : decode cL_law 816 = .ok (.iadd, 1) := by decide +kernel
theorem dL_law_817 : decode cL_law 817 = .ok (.iaload, 1) := by decide +kernel
theorem dL_law_818 : decode cL_law 818 = .ok (.invokevirtual 105, 3) := by decide +kernel
theorem dL_law_821 : decode cL_law 821 = .ok (.if_icmp .eq 348, 3) := by decide +kernel
theorem dL_law_824 : decode cL_law 824 = .ok (.iconst 0, 1) := by decide +kernel
theorem dL_law_825 : decode cL_law 825 = .ok (.ireturn, 1) := by decide +kernel
theorem dL_law_826 : decode cL_law 826 = .ok (.aload_n 1, 1) := by decide +kernel
theorem dL_law_827 : decode cL_law 827 = .ok (.aload_n 0, 1) := by decide +kernel
theorem dL_law_828 : decode cL_law 828 = .ok (.iload_n 3, 1) := by decide +kernel
theorem dL_law_829 : decode cL_law 829 = .ok (.iconst 1, 1) := by decide +kernel
theorem dL_law_830 : decode cL_law 830 = .ok (.iadd, 1) := by decide +kernel
theorem dL_law_831 : decode cL_law 831 = .ok (.iaload, 1) := by decide +kernel
theorem dL_law_832 : decode cL_law 832 = .ok (.aload_n 0, 1) := by decide +kernel
theorem dL_law_833 : decode cL_law 833 = .ok (.iload_n 3, 1) := by decide +kernel
theorem dL_law_834 : decode cL_law 834 = .ok (.iconst 2, 1) := by decide +kernel
theorem dL_law_835 : decode cL_law 835 = .ok (.iadd, 1) := by decide +kernel
theorem dL_law_836 : decode cL_law 836 = .ok (.iaload, 1) := by decide +kernel
theorem dL_law_837 : decode cL_law 837 = .ok (.aload_n 0, 1) := by decide +kernel
theorem dL_law_838 : decode cL_law 838 = .ok (.iload_n 3, 1) := by decide +kernel
theorem dL_law_839 : decode cL_law 839 = .ok (.iconst 3, 1) := by decide +kernel
theorem dL_law_840 : decode cL_law 840 = .ok (.iadd, 1) := by decide +kernel
theorem dL_law_841 : decode cL_law 841 = .ok (.iaload, 1) := by decide +kernel
theorem dL_law_842 : decode cL_law 842 = .ok (.aload_n 0, 1) := by decide +kernel
theorem dL_law_843 : decode cL_law 843 = .ok (.iload_n 3, 1) := by decide +kernel
theorem dL_law_844 : decode cL_law 844 = .ok (.iconst 4, 1) := by decide +kernel
theorem dL_law_845 : decode cL_law 845 = .ok (.iadd, 1) := by decide +kernel
theorem dL_law_846 : decode cL_law 846 = .ok (.iaload, 1) := by decide +kernel
theorem dL_law_847 : decode cL_law 847 = .ok (.aload_n 0, 1) := by decide +kernel
theorem dL_law_848 : decode cL_law 848 = .ok (.iload_n 3, 1) := by decide +kernel
theorem dL_law_849 : decode cL_law 849 = .ok (.iconst 5, 1) := by decide +kernel
theorem dL_law_850 : decode cL_law 850 = .ok (.iadd, 1) := by decide +kernel
theorem dL_law_851 : decode cL_law 851 = .ok (.iaload, 1) := by decide +kernel
theorem dL_law_852 : decode cL_law 852 = .ok (.invokevirtual 106, 3) := by decide +kernel
theorem dL_law_855 : decode cL_law 855 = .ok (.aload_n 2, 1) := by decide +kernel
theorem dL_law_856 : decode cL_law 856 = .ok (.aload_n 0, 1) := by decide +kernel
theorem dL_law_857 : decode cL_law 857 = .ok (.iload_n 3, 1) := by decide +kernel
theorem dL_law_858 : decode cL_law 858 = .ok (.iconst 1, 1) := by decide +kernel
theorem dL_law_859 : decode cL_law 859 = .ok (.iadd, 1) := by decide +kernel
theorem dL_law_860 : decode cL_law 860 = .ok (.iaload, 1) := by decide +kernel
theorem dL_law_861 : decode cL_law 861 = .ok (.aload_n 0, 1) := by decide +kernel
theorem dL_law_862 : decode cL_law 862 = .ok (.iload_n 3, 1) := by decide +kernel
theorem dL_law_863 : decode cL_law 863 = .ok (.iconst 2, 1) := by decide +kernel
theorem dL_law_864 : decode cL_law 864 = .ok (.iadd, 1) := by decide +kernel
theorem dL_law_865 : decode cL_law 865 = .ok (.iaload, 1) := by decide +kernel
theorem dL_law_866 : decode cL_law 866 = .ok (.aload_n 0, 1) := by decide +kernel
theorem dL_law_867 : decode cL_law 867 = .ok (.iload_n 3, 1) := by decide +kernel
theorem dL_law_868 : decode cL_law 868 = .ok (.iconst 3, 1) := by decide +kernel
theorem dL_law_869 : decode cL_law 869 = .ok (.iadd, 1) := by decide +kernel
theorem dL_law_870 : decode cL_law 870 = .ok (.iaload, 1) := by decide +kernel
theorem dL_law_871 : decode cL_law 871 = .ok (.aload_n 0, 1) := by decide +kernel
theorem dL_law_872 : decode cL_law 872 = .ok (.iload_n 3, 1) := by decide +kernel
theorem dL_law_873 : decode cL_law 873 = .ok (.iconst 4, 1) := by decide +kernel
theorem dL_law_874 : decode cL_law 874 = .ok (.iadd, 1) := by decide +kernel
theorem dL_law_875 : decode cL_law 875 = .ok (.iaload, 1) := by decide +kernel
theorem dL_law_876 : decode cL_law 876 = .ok (.aload_n 0, 1) := by decide +kernel
theorem dL_law_877 : decode cL_law 877 = .ok (.iload_n 3, 1) := by decide +kernel
theorem dL_law_878 : decode cL_law 878 = .ok (.iconst 5, 1) := by decide +kernel
theorem dL_law_879 : decode cL_law 879 = .ok (.iadd, 1) := by decide +kernel
theorem dL_law_880 : decode cL_law 880 = .ok (.iaload, 1) := by decide +kernel
theorem dL_law_881 : decode cL_law 881 = .ok (.invokevirtual 109, 3) := by decide +kernel
theorem dL_law_884 : decode cL_law 884 = .ok (.if_icmp .eq 285, 3) := by decide +kernel
theorem dL_law_887 : decode cL_law 887 = .ok (.iconst 0, 1) := by decide +kernel
theorem dL_law_888 : decode cL_law 888 = .ok (.ireturn, 1) := by decide +kernel
theorem dL_law_889 : decode cL_law 889 = .ok (.aload_n 1, 1) := by decide +kernel
theorem dL_law_890 : decode cL_law 890 = .ok (.aload_n 0, 1) := by decide +kernel
theorem dL_law_891 : decode cL_law 891 = .ok (.iload_n 3, 1) := by decide +kernel
theorem dL_law_892 : decode cL_law 892 = .ok (.iconst 1, 1) := by decide +kernel
theorem dL_law_893 : decode cL_law 893 = .ok (.iadd, 1) := by decide +kernel
theorem dL_law_894 : decode cL_law 894 = .ok (.iaload, 1) := by decide +kernel
theorem dL_law_895 : decode cL_law 895 = .ok (.aload_n 0, 1) := by decide +kernel
theorem dL_law_896 : decode cL_law 896 = .ok (.iload_n 3, 1) := by decide +kernel
theorem dL_law_897 : decode cL_law 897 = .ok (.iconst 2, 1) := by decide +kernel
theorem dL_law_898 : decode cL_law 898 = .ok (.iadd, 1) := by decide +kernel
theorem dL_law_899 : decode cL_law 899 = .ok (.iaload, 1) := by decide +kernel
theorem dL_law_900 : decode cL_law 900 = .ok (.aload_n 0, 1) := by decide +kernel
theorem dL_law_901 : decode cL_law 901 = .ok (.iload_n 3, 1) := by decide +kernel
theorem dL_law_902 : decode cL_law 902 = .ok (.iconst 3, 1) := by decide +kernel
theorem dL_law_903 : decode cL_law 903 = .ok (.iadd, 1) := by decide +kernel
theorem dL_law_904 : decode cL_law 904 = .ok (.iaload, 1) := by decide +kernel
theorem dL_law_905 : decode cL_law 905 = .ok (.invokevirtual 110, 3) := by decide +kernel
theorem dL_law_908 : decode cL_law 908 = .ok (.aload_n 2, 1) := by decide +kernel
theorem dL_law_909 : decode cL_law 909 = .ok (.aload_n 0, 1) := by decide +kernel
theorem dL_law_910 : decode cL_law 910 = .ok (.iload_n 3, 1) := by decide +kernel
theorem dL_law_911 : decode cL_law 911 = .ok (.iconst 1, 1) := by decide +kernel
theorem dL_law_912 : decode cL_law 912 = .ok (.iadd, 1) := by decide +kernel
theorem dL_law_913 : decode cL_law 913 = .ok (.iaload, 1) := by decide +kernel
theorem dL_law_914 : decode cL_law 914 = .ok (.aload_n 0, 1) := by decide +kernel
theorem dL_law_915 : decode cL_law 915 = .ok (.iload_n 3, 1) := by decide +kernel
theorem dL_law_916 : decode cL_law 916 = .ok (.iconst 2, 1) := by decide +kernel
theorem dL_law_917 : decode cL_law 917 = .ok (.iadd, 1) := by decide +kernel
theorem dL_law_918 : decode cL_law 918 = .ok (.iaload, 1) := by decide +kernel
theorem dL_law_919 : decode cL_law 919 = .ok (.aload_n 0, 1) := by decide +kernel
theorem dL_law_920 : decode cL_law 920 = .ok (.iload_n 3, 1) := by decide +kernel
theorem dL_law_921 : decode cL_law 921 = .ok (.iconst 3, 1) := by decide +kernel
theorem dL_law_922 : decode cL_law 922 = .ok (.iadd, 1) := by decide +kernel
theorem dL_law_923 : decode cL_law 923 = .ok (.iaload, 1) := by decide +kernel
theorem dL_law_924 : decode cL_law 924 = .ok (.invokevirtual 113, 3) := by decide +kernel
theorem dL_law_927 : decode cL_law 927 = .ok (.if_icmp .eq 242, 3) := by decide +kernel
theorem dL_law_930 : decode cL_law 930 = .ok (.iconst 0, 1) := by decide +kernel
theorem dL_law_931 : decode cL_law 931 = .ok (.ireturn, 1) := by decide +kernel
theorem dL_law_932 : decode cL_law 932 = .ok (.aload_n 1, 1) := by decide +kernel
theorem dL_law_933 : decode cL_law 933 = .ok (.aload_n 0, 1) := by decide +kernel
theorem dL_law_934 : decode cL_law 934 = .ok (.iload_n 3, 1) := by decide +kernel
theorem dL_law_935 : decode cL_law 935 = .ok (.iconst 1, 1) := by decide +kernel
theorem dL_law_936 : decode cL_law 936 = .ok (.iadd, 1) := by decide +kernel
theorem dL_law_937 : decode cL_law 937 = .ok (.iaload, 1) := by decide +kernel
theorem dL_law_938 : decode cL_law 938 = .ok (.aload_n 0, 1) := by decide +kernel
theorem dL_law_939 : decode cL_law 939 = .ok (.iload_n 3, 1) := by decide +kernel
theorem dL_law_940 : decode cL_law 940 = .ok (.iconst 2, 1) := by decide +kernel
theorem dL_law_941 : decode cL_law 941 = .ok (.iadd, 1) := by decide +kernel
theorem dL_law_942 : decode cL_law 942 = .ok (.iaload, 1) := by decide +kernel
theorem dL_law_943 : decode cL_law 943 = .ok (.aload_n 0, 1) := by decide +kernel
theorem dL_law_944 : decode cL_law 944 = .ok (.iload_n 3, 1) := by decide +kernel
theorem dL_law_945 : decode cL_law 945 = .ok (.iconst 3, 1) := by decide +kernel
theorem dL_law_946 : decode cL_law 946 = .ok (.iadd, 1) := by decide +kernel
theorem dL_law_947 : decode cL_law 947 = .ok (.iaload, 1) := by decide +kernel
theorem dL_law_948 : decode cL_law 948 = .ok (.invokevirtual 114, 3) := by decide +kernel
theorem dL_law_951 : decode cL_law 951 = .ok (.aload_n 2, 1) := by decide +kernel
theorem dL_law_952 : decode cL_law 952 = .ok (.aload_n 0, 1) := by decide +kernel
theorem dL_law_953 : decode cL_law 953 = .ok (.iload_n 3, 1) := by decide +kernel
theorem dL_law_954 : decode cL_law 954 = .ok (.iconst 1, 1) := by decide +kernel
theorem dL_law_955 : decode cL_law 955 = .ok (.iadd, 1) := by decide +kernel
theorem dL_law_956 : decode cL_law 956 = .ok (.iaload, 1) := by decide +kernel
theorem dL_law_957 : decode cL_law 957 = .ok (.aload_n 0, 1) := by decide +kernel
theorem dL_law_958 : decode cL_law 958 = .ok (.iload_n 3, 1) := by decide +kernel
theorem dL_law_959 : decode cL_law 959 = .ok (.iconst 2, 1) := by decide +kernel
theorem dL_law_960 : decode cL_law 960 = .ok (.iadd, 1) := by decide +kernel
theorem dL_law_961 : decode cL_law 961 = .ok (.iaload, 1) := by decide +kernel
theorem dL_law_962 : decode cL_law 962 = .ok (.aload_n 0, 1) := by decide +kernel
theorem dL_law_963 : decode cL_law 963 = .ok (.iload_n 3, 1) := by decide +kernel
theorem dL_law_964 : decode cL_law 964 = .ok (.iconst 3, 1) := by decide +kernel
theorem dL_law_965 : decode cL_law 965 = .ok (.iadd, 1) := by decide +kernel
theorem dL_law_966 : decode cL_law 966 = .ok (.iaload, 1) := by decide +kernel
theorem dL_law_967 : decode cL_law 967 = .ok (.invokevirtual 117, 3) := by decide +kernel
theorem dL_law_970 : decode cL_law 970 = .ok (.if_icmp .eq 199, 3) := by decide +kernel
theorem dL_law_973 : decode cL_law 973 = .ok (.iconst 0, 1) := by decide +kernel
theorem dL_law_974 : decode cL_law 974 = .ok (.ireturn, 1) := by decide +kernel
theorem dL_law_975 : decode cL_law 975 = .ok (.aload_n 1, 1) := by decide +kernel
theorem dL_law_976 : decode cL_law 976 = .ok (.aload_n 0, 1) := by decide +kernel
theorem dL_law_977 : decode cL_law 977 = .ok (.iload_n 3, 1) := by decide +kernel
theorem dL_law_978 : decode cL_law 978 = .ok (.iconst 1, 1) := by decide +kernel
theorem dL_law_979 : decode cL_law 979 = .ok (.iadd, 1) := by decide +kernel
theorem dL_law_980 : decode cL_law 980 = .ok (.iaload, 1) := by decide +kernel
theorem dL_law_981 : decode cL_law 981 = .ok (.invokevirtual 118, 3) := by decide +kernel
theorem dL_law_984 : decode cL_law 984 = .ok (.aload_n 2, 1) := by decide +kernel
theorem dL_law_985 : decode cL_law 985 = .ok (.aload_n 0, 1) := by decide +kernel
theorem dL_law_986 : decode cL_law 986 = .ok (.iload_n 3, 1) := by decide +kernel
theorem dL_law_987 : decode cL_law 987 = .ok (.iconst 1, 1) := by decide +kernel
theorem dL_law_988 : decode cL_law 988 = .ok (.iadd, 1) := by decide +kernel
theorem dL_law_989 : decode cL_law 989 = .ok (.iaload, 1) := by decide +kernel
theorem dL_law_990 : decode cL_law 990 = .ok (.invokevirtual 121, 3) := by decide +kernel
theorem dL_law_993 : decode cL_law 993 = .ok (.if_icmp .eq 176, 3) := by decide +kernel
theorem dL_law_996 : decode cL_law 996 = .ok (.iconst 0, 1) := by decide +kernel
theorem dL_law_997 : decode cL_law 997 = .ok (.ireturn, 1) := by decide +kernel
theorem dL_law_998 : decode cL_law 998 = .ok (.aload_n 1, 1) := by decide +kernel
theorem dL_law_999 : decode cL_law 999 = .ok (.aload_n 0, 1) := by decide +kernel
theorem dL_law_1000 : decode cL_law 1000 = .ok (.iload_n 3, 1) := by decide +kernel
theorem dL_law_1001 : decode cL_law 1001 = .ok (.iconst 1, 1) := by decide +kernel
theorem dL_law_1002 : decode cL_law 1002 = .ok (.iadd, 1) := by decide +kernel
theorem dL_law_1003 : decode cL_law 1003 = .ok (.iaload, 1) := by decide +kernel
theorem dL_law_1004 : decode cL_law 1004 = .ok (.invokevirtual 122, 3) := by decide +kernel
theorem dL_law_1007 : decode cL_law 1007 = .ok (.aload_n 2, 1) := by decide +kernel
theorem dL_law_1008 : decode cL_law 1008 = .ok (.aload_n 0, 1) := by decide +kernel
theorem dL_law_1009 : decode cL_law 1009 = .ok (.iload_n 3, 1) := by decide +kernel
theorem dL_law_1010 : decode cL_law 1010 = .ok (.iconst 1, 1) := by decide +kernel
theorem dL_law_1011 : decode cL_law 1011 = .ok (.iadd, 1) := by decide +kernel
theorem dL_law_1012 : decode cL_law 1012 = .ok (.iaload, 1) := by decide +kernel
theorem dL_law_1013 : decode cL_law 1013 = .ok (.invokevirtual 125, 3) := by decide +kernel
theorem dL_law_1016 : decode cL_law 1016 = .ok (.if_icmp .eq 153, 3) := by decide +kernel
theorem dL_law_1019 : decode cL_law 1019 = .ok (.iconst 0, 1) := by decide +kernel
theorem dL_law_1020 : decode cL_law 1020 = .ok (.ireturn, 1) := by decide +kernel
theorem dL_law_1021 : decode cL_law 1021 = .ok (.aload_n 1, 1) := by decide +kernel
theorem dL_law_1022 : decode cL_law 1022 = .ok (.aload_n 0, 1) := by decide +kernel
theorem dL_law_1023 : decode cL_law 1023 = .ok (.iload_n 3, 1) := by decide +kernel
theorem dL_law_1024 : decode cL_law 1024 = .ok (.iconst 1, 1) := by decide +kernel
theorem dL_law_1025 : decode cL_law 1025 = .ok (.iadd, 1) := by decide +kernel
theorem dL_law_1026 : decode cL_law 1026 = .ok (.iaload, 1) := by decide +kernel
theorem dL_law_1027 : decode cL_law 1027 = .ok (.invokevirtual 126, 3) := by decide +kernel
theorem dL_law_1030 : decode cL_law 1030 = .ok (.aload_n 2, 1) := by decide +kernel
theorem dL_law_1031 : decode cL_law 1031 = .ok (.aload_n 0, 1) := by decide +kernel
theorem dL_law_1032 : decode cL_law 1032 = .ok (.iload_n 3, 1) := by decide +kernel
theorem dL_law_1033 : decode cL_law 1033 = .ok (.iconst 1, 1) := by decide +kernel
theorem dL_law_1034 : decode cL_law 1034 = .ok (.iadd, 1) := by decide +kernel
theorem dL_law_1035 : decode cL_law 1035 = .ok (.iaload, 1) := by decide +kernel
theorem dL_law_1036 : decode cL_law 1036 = .ok (.invokevirtual 129, 3) := by decide +kernel
theorem dL_law_1039 : decode cL_law 1039 = .ok (.if_icmp .eq 130, 3) := by decide +kernel
theorem dL_law_1042 : decode cL_law 1042 = .ok (.iconst 0, 1) := by decide +kernel
theorem dL_law_1043 : decode cL_law 1043 = .ok (.ireturn, 1) := by decide +kernel
theorem dL_law_1044 : decode cL_law 1044 = .ok (.aload_n 1, 1) := by decide +kernel
theorem dL_law_1045 : decode cL_law 1045 = .ok (.aload_n 0, 1) := by decide +kernel
theorem dL_law_1046 : decode cL_law 1046 = .ok (.iload_n 3, 1) := by decide +kernel
theorem dL_law_1047 : decode cL_law 1047 = .ok (.iconst 1, 1) := by decide +kernel
theorem dL_law_1048 : decode cL_law 1048 = .ok (.iadd, 1) := by decide +kernel
theorem dL_law_1049 : decode cL_law 1049 = .ok (.iaload, 1) := by decide +kernel
theorem dL_law_1050 : decode cL_law 1050 = .ok (.aload_n 0, 1) := by decide +kernel
theorem dL_law_1051 : decode cL_law 1051 = .ok (.iload_n 3, 1) := by decide +kernel
theorem dL_law_1052 : decode cL_law 1052 = .ok (.iconst 2, 1) := by decide +kernel
theorem dL_law_1053 : decode cL_law 1053 = .ok (.iadd, 1) := by decide +kernel
theorem dL_law_1054 : decode cL_law 1054 = .ok (.iaload, 1) := by decide +kernel
theorem dL_law_1055 : decode cL_law 1055 = .ok (.invokevirtual 130, 3) := by decide +kernel
theorem dL_law_1058 : decode cL_law 1058 = .ok (.aload_n 2, 1) := by decide +kernel
theorem dL_law_1059 : decode cL_law 1059 = .ok (.aload_n 0, 1) := by decide +kernel
theorem dL_law_1060 : decode cL_law 1060 = .ok (.iload_n 3, 1) := by decide +kernel
theorem dL_law_1061 : decode cL_law 1061 = .ok (.iconst 1, 1) := by decide +kernel
theorem dL_law_1062 : decode cL_law 1062 = .ok (.iadd, 1) := by decide +kernel
theorem dL_law_1063 : decode cL_law 1063 = .ok (.iaload, 1) := by decide +kernel
theorem dL_law_1064 : decode cL_law 1064 = .ok (.aload_n 0, 1) := by decide +kernel
theorem dL_law_1065 : decode cL_law 1065 = .ok (.iload_n 3, 1) := by decide +kernel
theorem dL_law_1066 : decode cL_law 1066 = .ok (.iconst 2, 1) := by decide +kernel
theorem dL_law_1067 : decode cL_law 1067 = .ok (.iadd, 1) := by decide +kernel
theorem dL_law_1068 : decode cL_law 1068 = .ok (.iaload, 1) := by decide +kernel
theorem dL_law_1069 : decode cL_law 1069 = .ok (.invokevirtual 133, 3) := by decide +kernel
theorem dL_law_1072 : decode cL_law 1072 = .ok (.if_icmp .eq 97, 3) := by decide +kernel
theorem dL_law_1075 : decode cL_law 1075 = .ok (.iconst 0, 1) := by decide +kernel
theorem dL_law_1076 : decode cL_law 1076 = .ok (.ireturn, 1) := by decide +kernel
theorem dL_law_1077 : decode cL_law 1077 = .ok (.aload_n 1, 1) := by decide +kernel
theorem dL_law_1078 : decode cL_law 1078 = .ok (.aload_n 0, 1) := by decide +kernel
theorem dL_law_1079 : decode cL_law 1079 = .ok (.iload_n 3, 1) := by decide +kernel
theorem dL_law_1080 : decode cL_law 1080 = .ok (.iconst 1, 1) := by decide +kernel
theorem dL_law_1081 : decode cL_law 1081 = .ok (.iadd, 1) := by decide +kernel
theorem dL_law_1082 : decode cL_law 1082 = .ok (.iaload, 1) := by decide +kernel
theorem dL_law_1083 : decode cL_law 1083 = .ok (.aload_n 0, 1) := by decide +kernel
theorem dL_law_1084 : decode cL_law 1084 = .ok (.iload_n 3, 1) := by decide +kernel
theorem dL_law_1085 : decode cL_law 1085 = .ok (.iconst 2, 1) := by decide +kernel
theorem dL_law_1086 : decode cL_law 1086 = .ok (.iadd, 1) := by decide +kernel
theorem dL_law_1087 : decode cL_law 1087 = .ok (.iaload, 1) := by decide +kernel
theorem dL_law_1088 : decode cL_law 1088 = .ok (.invokevirtual 134, 3) := by decide +kernel
theorem dL_law_1091 : decode cL_law 1091 = .ok (.aload_n 2, 1) := by decide +kernel
theorem dL_law_1092 : decode cL_law 1092 = .ok (.aload_n 0, 1) := by decide +kernel
theorem dL_law_1093 : decode cL_law 1093 = .ok (.iload_n 3, 1) := by decide +kernel
theorem dL_law_1094 : decode cL_law 1094 = .ok (.iconst 1, 1) := by decide +kernel
theorem dL_law_1095 : decode cL_law 1095 = .ok (.iadd, 1) := by decide +kernel
theorem dL_law_1096 : decode cL_law 1096 = .ok (.iaload, 1) := by decide +kernel
theorem dL_law_1097 : decode cL_law 1097 = .ok (.aload_n 0, 1) := by decide +kernel
theorem dL_law_1098 : decode cL_law 1098 = .ok (.iload_n 3, 1) := by decide +kernel
theorem dL_law_1099 : decode cL_law 1099 = .ok (.iconst 2, 1) := by decide +kernel
theorem dL_law_1100 : decode cL_law 1100 = .ok (.iadd, 1) := by decide +kernel
theorem dL_law_1101 : decode cL_law 1101 = .ok (.iaload, 1) := by decide +kernel
theorem dL_law_1102 : decode cL_law 1102 = .ok (.invokevirtual 137, 3) := by decide +kernel
theorem dL_law_1105 : decode cL_law 1105 = .ok (.if_icmp .eq 64, 3) := by decide +kernel
theorem dL_law_1108 : decode cL_law 1108 = .ok (.iconst 0, 1) := by decide +kernel
theorem dL_law_1109 : decode cL_law 1109 = .ok (.ireturn, 1) := by decide +kernel
theorem dL_law_1110 : decode cL_law 1110 = .ok (.aload_n 1, 1) := by decide +kernel
theorem dL_law_1111 : decode cL_law 1111 = .ok (.aload_n 0, 1) := by decide +kernel
theorem dL_law_1112 : decode cL_law 1112 = .ok (.iload_n 3, 1) := by decide +kernel
theorem dL_law_1113 : decode cL_law 1113 = .ok (.iconst 1, 1) := by decide +kernel
theorem dL_law_1114 : decode cL_law 1114 = .ok (.iadd, 1) := by decide +kernel
theorem dL_law_1115 : decode cL_law 1115 = .ok (.iaload, 1) := by decide +kernel
theorem dL_law_1116 : decode cL_law 1116 = .ok (.invokevirtual 138, 3) := by decide +kernel
theorem dL_law_1119 : decode cL_law 1119 = .ok (.aload_n 2, 1) := by decide +kernel
theorem dL_law_1120 : decode cL_law 1120 = .ok (.aload_n 0, 1) := by decide +kernel
theorem dL_law_1121 : decode cL_law 1121 = .ok (.iload_n 3, 1) := by decide +kernel
theorem dL_law_1122 : decode cL_law 1122 = .ok (.iconst 1, 1) := by decide +kernel
theorem dL_law_1123 : decode cL_law 1123 = .ok (.iadd, 1) := by decide +kernel
theorem dL_law_1124 : decode cL_law 1124 = .ok (.iaload, 1) := by decide +kernel
theorem dL_law_1125 : decode cL_law 1125 = .ok (.invokevirtual 141, 3) := by decide +kernel
theorem dL_law_1128 : decode cL_law 1128 = .ok (.if_icmp .eq 41, 3) := by decide +kernel
theorem dL_law_1131 : decode cL_law 1131 = .ok (.iconst 0, 1) := by decide +kernel
theorem dL_law_1132 : decode cL_law 1132 = .ok (.ireturn, 1) := by decide +kernel
theorem dL_law_1133 : decode cL_law 1133 = .ok (.aload_n 1, 1) := by decide +kernel
theorem dL_law_1134 : decode cL_law 1134 = .ok (.aload_n 0, 1) := by decide +kernel
theorem dL_law_1135 : decode cL_law 1135 = .ok (.iload_n 3, 1) := by decide +kernel
theorem dL_law_1136 : decode cL_law 1136 = .ok (.iconst 1, 1) := by decide +kernel
theorem dL_law_1137 : decode cL_law 1137 = .ok (.iadd, 1) := by decide +kernel
theorem dL_law_1138 : decode cL_law 1138 = .ok (.iaload, 1) := by decide +kernel
theorem dL_law_1139 : decode cL_law 1139 = .ok (.invokevirtual 142, 3) := by decide +kernel
theorem dL_law_1142 : decode cL_law 1142 = .ok (.aload_n 2, 1) := by decide +kernel
theorem dL_law_1143 : decode cL_law 1143 = .ok (.aload_n 0, 1) := by decide +kernel
theorem dL_law_1144 : decode cL_law 1144 = .ok (.iload_n 3, 1) := by decide +kernel
theorem dL_law_1145 : decode cL_law 1145 = .ok (.iconst 1, 1) := by decide +kernel
theorem dL_law_1146 : decode cL_law 1146 = .ok (.iadd, 1) := by decide +kernel
theorem dL_law_1147 : decode cL_law 1147 = .ok (.iaload, 1) := by decide +kernel
theorem dL_law_1148 : decode cL_law 1148 = .ok (.invokevirtual 145, 3) := by decide +kernel
theorem dL_law_1151 : decode cL_law 1151 = .ok (.if_icmp .eq 18, 3) := by decide +kernel
theorem dL_law_1154 : decode cL_law 1154 = .ok (.iconst 0, 1) := by decide +kernel
theorem dL_law_1155 : decode cL_law 1155 = .ok (.ireturn, 1) := by decide +kernel
theorem dL_law_1156 : decode cL_law 1156 = .ok (.aload_n 1, 1) := by decide +kernel
theorem dL_law_1157 : decode cL_law 1157 = .ok (.invokevirtual 146, 3) := by decide +kernel
theorem dL_law_1160 : decode cL_law 1160 = .ok (.aload_n 2, 1) := by decide +kernel
theorem dL_law_1161 : decode cL_law 1161 = .ok (.invokevirtual 149, 3) := by decide +kernel
theorem dL_law_1164 : decode cL_law 1164 = .ok (.if_icmp .eq 5, 3) := by decide +kernel
theorem dL_law_1167 : decode cL_law 1167 = .ok (.iconst 0, 1) := by decide +kernel
theorem dL_law_1168 : decode cL_law 1168 = .ok (.ireturn, 1) := by decide +kernel
theorem dL_law_1169 : decode cL_law 1169 = .ok (.iinc 3 6, 3) := by decide +kernel
theorem dL_law_1172 : decode cL_law 1172 = .ok (.goto (-1154), 3) := by decide +kernel
theorem dL_law_1175 : decode cL_law 1175 = .ok (.iconst 1, 1) := by decide +kernel
theorem dL_law_1176 : decode cL_law 1176 = .ok (.ireturn, 1) := by decide +kernel
end
section
/-- the words of the tables, one list for all methods -/
def gw : List Cond := lw_tbl.filter goodWord
theorem gw_p {q : MethodName × Nat} (h : q ∈ lw_privs) : Cond.selects q.1.cls q.1 q.1 ∈ gw := List.mem_filter.mpr ⟨List.mem_append_left _ (List.mem_map.mpr ⟨q, h, rfl⟩), rfl⟩
theorem gw_t {w : Cond} (h : w ∈ tables_1) (g : goodWord w = true) : w ∈ gw := List.mem_filter.mpr ⟨List.mem_append_right _ h, g⟩
theorem gw_1 {w : Cond} (h : w ∈ tables_1_1) (g : goodWord w = true) : w ∈ gw := gw_t (List.mem_append_left _ h) g
theorem gw_2 {w : Cond} (h : w ∈ tables_1_2) (g : goodWord w = true) : w ∈ gw := gw_t (List.mem_append_right _ (List.mem_append_left _ h)) g
theorem gw_3 {w : Cond} (h : w ∈ tables_1_3) (g : goodWord w = true) : w ∈ gw := gw_t (List.mem_append_right _ (List.mem_append_right _ (List.mem_append_left _ h))) g
theorem gw_4 {w : Cond} (h : w ∈ tables_1_4) (g : goodWord w = true) : w ∈ gw := gw_t (List.mem_append_right _ (List.mem_append_right _ (List.mem_append_right _ (List.mem_append_left _ h)))) g
theorem gw_5 {w : Cond} (h : w ∈ tables_1_5) (g : goodWord w = true) : w ∈ gw := gw_t (List.mem_append_right _ (List.mem_append_right _ (List.mem_append_right _ (List.mem_append_right _ (h))))) g
theorem gw_good : ∀ w ∈ gw, goodWord w = true := fun w h => (List.mem_filter.mp h).2
theorem gk_1_0 : Cond.initialized "WakeLetLaw" ∈ gw := gw_1 (List.mem_of_getElem? (i := 0) rfl) rfl
theorem gk_1_1 : Cond.initialized "WakeLet" ∈ gw := gw_1 (List.mem_of_getElem? (i := 1) rfl) rfl
theorem gk_1_2 : Cond.initialized "WakeLet$Agency" ∈ gw := gw_1 (List.mem_of_getElem? (i := 2) rfl) rfl
theorem gk_1_3 : Cond.initialized "WakeLet$Tape" ∈ gw := gw_1 (List.mem_of_getElem? (i := 3) rfl) rfl
theorem gk_1_4 : Cond.initialized "WakeLet$Acts" ∈ gw := gw_1 (List.mem_of_getElem? (i := 4) rfl) rfl
theorem gk_1_5 : Cond.initialized "WakeLet$Search" ∈ gw := gw_1 (List.mem_of_getElem? (i := 5) rfl) rfl
theorem gk_1_6 : Cond.initialized "WakeLet$Asks" ∈ gw := gw_1 (List.mem_of_getElem? (i := 6) rfl) rfl
theorem gk_1_7 : Cond.initialized "WakeLet$Row" ∈ gw := gw_1 (List.mem_of_getElem? (i := 7) rfl) rfl
theorem gk_1_8 : Cond.initialized "WakeLetModel" ∈ gw := gw_1 (List.mem_of_getElem? (i := 8) rfl) rfl
theorem gk_1_9 : Cond.initialized "java/lang/System" ∈ gw := gw_1 (List.mem_of_getElem? (i := 9) rfl) rfl
theorem gk_1_10 : Cond.initialized "java/lang/Math" ∈ gw := gw_1 (List.mem_of_getElem? (i := 10) rfl) rfl
theorem gk_1_11 : Cond.initialized "java/lang/Integer" ∈ gw := gw_1 (List.mem_of_getElem? (i := 11) rfl) rfl
theorem gk_1_12 : Cond.classLink "WakeLetLaw" 7 "WakeLet" ∈ gw := gw_1 (List.mem_of_getElem? (i := 12) rfl) rfl
theorem gk_1_13 : Cond.instantiable "WakeLet" 10 ∈ gw := gw_1 (List.mem_of_getElem? (i := 13) rfl) rfl
theorem gk_1_14 : Cond.methodLink "WakeLetLaw" 9 ⟨"WakeLet", "<init>", "()V"⟩ ∈ gw := gw_1 (List.mem_of_getElem? (i := 14) rfl) rfl
theorem gk_1_15 : Cond.instanceMethod ⟨"WakeLet", "<init>", "()V"⟩ ∈ gw := gw_1 (List.mem_of_getElem? (i := 15) rfl) rfl
theorem gk_1_16 : Cond.code ⟨"WakeLet", "<init>", "()V"⟩ prog_1_method_1_code 2 none ∈ gw := gw_1 (List.mem_of_getElem? (i := 16) rfl) rfl
theorem gk_1_17 : Cond.methodLink "WakeLet" 3 ⟨"java/lang/Object", "<init>", "()V"⟩ ∈ gw := gw_1 (List.mem_of_getElem? (i := 17) rfl) rfl
theorem gk_1_18 : Cond.instanceMethod ⟨"java/lang/Object", "<init>", "()V"⟩ ∈ gw := gw_1 (List.mem_of_getElem? (i := 18) rfl) rfl
theorem gk_1_19 : Cond.code ⟨"java/lang/Object", "<init>", "()V"⟩ object_method_1_code 1 none ∈ gw := gw_1 (List.mem_of_getElem? (i := 19) rfl) rfl
theorem gk_1_20 : Cond.classLink "WakeLet" 9 "WakeLet$Row" ∈ gw := gw_1 (List.mem_of_getElem? (i := 20) rfl) rfl
theorem gk_1_22 : Cond.classLink "WakeLet" 15 "WakeLet$Agency" ∈ gw := gw_1 (List.mem_of_getElem? (i := 22) rfl) rfl
theorem gk_1_24 : Cond.instantiable "WakeLet$Agency" 12 ∈ gw := gw_1 (List.mem_of_getElem? (i := 24) rfl) rfl
theorem gk_1_26 : Cond.instanceMethod ⟨"WakeLet$Agency", "<init>", "()V"⟩ ∈ gw := gw_1 (List.mem_of_getElem? (i := 26) rfl) rfl
theorem gk_1_27 : Cond.code ⟨"WakeLet$Agency", "<init>", "()V"⟩ prog_3_method_1_code 1 none ∈ gw := gw_1 (List.mem_of_getElem? (i := 27) rfl) rfl
theorem gk_1_28 : Cond.methodLink "WakeLet$Agency" 3 ⟨"java/lang/Object", "<init>", "()V"⟩ ∈ gw := gw_1 (List.mem_of_getElem? (i := 28) rfl) rfl
theorem gk_1_29 : Cond.fieldLink "WakeLet$Agency" 9 "WakeLet$Agency" "weights" "[I" ∈ gw := gw_1 (List.mem_of_getElem? (i := 29) rfl) rfl
theorem gk_1_30 : Cond.fieldLink "WakeLet$Acts" 31 "WakeLet$Agency" "weights" "[I" ∈ gw := gw_1 (List.mem_of_getElem? (i := 30) rfl) rfl
theorem gk_1_31 : Cond.fieldLink "WakeLet$Tape" 68 "WakeLet$Agency" "weights" "[I" ∈ gw := gw_1 (List.mem_of_getElem? (i := 31) rfl) rfl
theorem gk_1_32 : Cond.fieldLink "WakeLet$Search" 75 "WakeLet$Agency" "weights" "[I" ∈ gw := gw_1 (List.mem_of_getElem? (i := 32) rfl) rfl
theorem gk_1_33 : Cond.fieldLink "WakeLet" 164 "WakeLet$Agency" "weights" "[I" ∈ gw := gw_1 (List.mem_of_getElem? (i := 33) rfl) rfl
theorem gk_1_34 : Cond.fieldLink "WakeLet$Agency" 15 "WakeLet$Agency" "worries" "[I" ∈ gw := gw_1 (List.mem_of_getElem? (i := 34) rfl) rfl
theorem gk_1_35 : Cond.fieldLink "WakeLet$Tape" 71 "WakeLet$Agency" "worries" "[I" ∈ gw := gw_1 (List.mem_of_getElem? (i := 35) rfl) rfl
theorem gk_1_36 : Cond.fieldLink "WakeLet" 177 "WakeLet$Agency" "worries" "[I" ∈ gw := gw_1 (List.mem_of_getElem? (i := 36) rfl) rfl
theorem gk_1_37 : Cond.fieldLink "WakeLet$Agency" 18 "WakeLet$Agency" "kinds" "[I" ∈ gw := gw_1 (List.mem_of_getElem? (i := 37) rfl) rfl
theorem gk_1_38 : Cond.fieldLink "WakeLet$Asks" 36 "WakeLet$Agency" "kinds" "[I" ∈ gw := gw_1 (List.mem_of_getElem? (i := 38) rfl) rfl
theorem gk_1_39 : Cond.fieldLink "WakeLet$Tape" 83 "WakeLet$Agency" "kinds" "[I" ∈ gw := gw_1 (List.mem_of_getElem? (i := 39) rfl) rfl
theorem gk_1_40 : Cond.fieldLink "WakeLet" 261 "WakeLet$Agency" "kinds" "[I" ∈ gw := gw_1 (List.mem_of_getElem? (i := 40) rfl) rfl
theorem gk_1_41 : Cond.fieldLink "WakeLet$Agency" 21 "WakeLet$Agency" "hours" "[I" ∈ gw := gw_1 (List.mem_of_getElem? (i := 41) rfl) rfl
theorem gk_1_42 : Cond.fieldLink "WakeLet$Tape" 86 "WakeLet$Agency" "hours" "[I" ∈ gw := gw_1 (List.mem_of_getElem? (i := 42) rfl) rfl
theorem gk_1_43 : Cond.fieldLink "WakeLet$Asks" 59 "WakeLet$Agency" "hours" "[I" ∈ gw := gw_1 (List.mem_of_getElem? (i := 43) rfl) rfl
theorem gk_1_44 : Cond.fieldLink "WakeLet" 186 "WakeLet$Agency" "hours" "[I" ∈ gw := gw_1 (List.mem_of_getElem? (i := 44) rfl) rfl
theorem gk_1_45 : Cond.fieldLink "WakeLet$Agency" 24 "WakeLet$Agency" "fitting" "[I" ∈ gw := gw_1 (List.mem_of_getElem? (i := 45) rfl) rfl
theorem gk_1_46 : Cond.fieldLink "WakeLet$Acts" 40 "WakeLet$Agency" "fitting" "[I" ∈ gw := gw_1 (List.mem_of_getElem? (i := 46) rfl) rfl
theorem gk_1_47 : Cond.fieldLink "WakeLet$Tape" 89 "WakeLet$Agency" "fitting" "[I" ∈ gw := gw_1 (List.mem_of_getElem? (i := 47) rfl) rfl
theorem gk_1_48 : Cond.fieldLink "WakeLet" 167 "WakeLet$Agency" "fitting" "[I" ∈ gw := gw_1 (List.mem_of_getElem? (i := 48) rfl) rfl
theorem gk_1_49 : Cond.fieldLink "WakeLet$Agency" 27 "WakeLet$Agency" "hirers" "[I" ∈ gw := gw_1 (List.mem_of_getElem? (i := 49) rfl) rfl
theorem gk_1_50 : Cond.fieldLink "WakeLet$Acts" 43 "WakeLet$Agency" "hirers" "[I" ∈ gw := gw_1 (List.mem_of_getElem? (i := 50) rfl) rfl
theorem gk_1_51 : Cond.fieldLink "WakeLet$Tape" 92 "WakeLet$Agency" "hirers" "[I" ∈ gw := gw_1 (List.mem_of_getElem? (i := 51) rfl) rfl
theorem gk_1_52 : Cond.fieldLink "WakeLet" 158 "WakeLet$Agency" "hirers" "[I" ∈ gw := gw_1 (List.mem_of_getElem? (i := 52) rfl) rfl
theorem gk_1_53 : Cond.fieldLink "WakeLet$Agency" 30 "WakeLet$Agency" "wages" "[I" ∈ gw := gw_1 (List.mem_of_getElem? (i := 53) rfl) rfl
theorem gk_1_54 : Cond.fieldLink "WakeLet$Acts" 46 "WakeLet$Agency" "wages" "[I" ∈ gw := gw_1 (List.mem_of_getElem? (i := 54) rfl) rfl
theorem gk_1_55 : Cond.fieldLink "WakeLet$Tape" 99 "WakeLet$Agency" "wages" "[I" ∈ gw := gw_1 (List.mem_of_getElem? (i := 55) rfl) rfl
theorem gk_1_56 : Cond.fieldLink "WakeLet$Asks" 62 "WakeLet$Agency" "wages" "[I" ∈ gw := gw_1 (List.mem_of_getElem? (i := 56) rfl) rfl
theorem gk_1_57 : Cond.fieldLink "WakeLet" 193 "WakeLet$Agency" "wages" "[I" ∈ gw := gw_1 (List.mem_of_getElem? (i := 57) rfl) rfl
theorem gk_1_58 : Cond.fieldLink "WakeLet$Agency" 33 "WakeLet$Agency" "clients" "I" ∈ gw := gw_1 (List.mem_of_getElem? (i := 58) rfl) rfl
theorem gk_1_59 : Cond.fieldLink "WakeLet$Search" 43 "WakeLet$Agency" "clients" "I" ∈ gw := gw_1 (List.mem_of_getElem? (i := 59) rfl) rfl
theorem gk_1_60 : Cond.fieldLink "WakeLet$Tape" 65 "WakeLet$Agency" "clients" "I" ∈ gw := gw_1 (List.mem_of_getElem? (i := 60) rfl) rfl
theorem gk_1_61 : Cond.fieldLink "WakeLet" 132 "WakeLet$Agency" "clients" "I" ∈ gw := gw_1 (List.mem_of_getElem? (i := 61) rfl) rfl
theorem gk_1_62 : Cond.fieldLink "WakeLet$Agency" 37 "WakeLet$Agency" "wakers" "I" ∈ gw := gw_1 (List.mem_of_getElem? (i := 62) rfl) rfl
theorem gk_1_63 : Cond.fieldLink "WakeLet$Tape" 80 "WakeLet$Agency" "wakers" "I" ∈ gw := gw_1 (List.mem_of_getElem? (i := 63) rfl) rfl
theorem gk_1_64 : Cond.fieldLink "WakeLet$Search" 103 "WakeLet$Agency" "wakers" "I" ∈ gw := gw_1 (List.mem_of_getElem? (i := 64) rfl) rfl
theorem gk_1_65 : Cond.fieldLink "WakeLet" 232 "WakeLet$Agency" "wakers" "I" ∈ gw := gw_1 (List.mem_of_getElem? (i := 65) rfl) rfl
theorem gk_1_66 : Cond.fieldLink "WakeLet$Search" 52 "WakeLet$Agency" "bears" "I" ∈ gw := gw_1 (List.mem_of_getElem? (i := 66) rfl) rfl
theorem gk_1_67 : Cond.fieldLink "WakeLet$Agency" 49 "WakeLet$Agency" "bears" "I" ∈ gw := gw_1 (List.mem_of_getElem? (i := 67) rfl) rfl
theorem gk_1_68 : Cond.fieldLink "WakeLet$Tape" 52 "WakeLet$Agency" "bears" "I" ∈ gw := gw_1 (List.mem_of_getElem? (i := 68) rfl) rfl
theorem gk_1_69 : Cond.fieldLink "WakeLet$Agency" 52 "WakeLet$Agency" "moon" "I" ∈ gw := gw_1 (List.mem_of_getElem? (i := 69) rfl) rfl
theorem gk_1_70 : Cond.fieldLink "WakeLet$Tape" 55 "WakeLet$Agency" "moon" "I" ∈ gw := gw_1 (List.mem_of_getElem? (i := 70) rfl) rfl
theorem gk_1_71 : Cond.fieldLink "WakeLet$Agency" 40 "WakeLet$Agency" "night" "I" ∈ gw := gw_1 (List.mem_of_getElem? (i := 71) rfl) rfl
theorem gk_1_72 : Cond.fieldLink "WakeLet$Acts" 26 "WakeLet$Agency" "night" "I" ∈ gw := gw_1 (List.mem_of_getElem? (i := 72) rfl) rfl
theorem gk_1_73 : Cond.fieldLink "WakeLet$Search" 78 "WakeLet$Agency" "night" "I" ∈ gw := gw_1 (List.mem_of_getElem? (i := 73) rfl) rfl
theorem gk_1_74 : Cond.fieldLink "WakeLet" 139 "WakeLet$Agency" "night" "I" ∈ gw := gw_1 (List.mem_of_getElem? (i := 74) rfl) rfl
theorem gk_1_75 : Cond.laysFinal "WakeLet$Agency" "WakeLet$Agency" "weights" "[I" ∈ gw := gw_1 (List.mem_of_getElem? (i := 75) rfl) rfl
theorem gk_1_77 : Cond.laysFinal "WakeLet$Agency" "WakeLet$Agency" "worries" "[I" ∈ gw := gw_1 (List.mem_of_getElem? (i := 77) rfl) rfl
theorem gk_1_79 : Cond.laysFinal "WakeLet$Agency" "WakeLet$Agency" "kinds" "[I" ∈ gw := gw_1 (List.mem_of_getElem? (i := 79) rfl) rfl
theorem gk_1_81 : Cond.laysFinal "WakeLet$Agency" "WakeLet$Agency" "hours" "[I" ∈ gw := gw_1 (List.mem_of_getElem? (i := 81) rfl) rfl
theorem gk_1_83 : Cond.laysFinal "WakeLet$Agency" "WakeLet$Agency" "fitting" "[I" ∈ gw := gw_1 (List.mem_of_getElem? (i := 83) rfl) rfl
theorem gk_1_85 : Cond.laysFinal "WakeLet$Agency" "WakeLet$Agency" "hirers" "[I" ∈ gw := gw_1 (List.mem_of_getElem? (i := 85) rfl) rfl
theorem gk_1_87 : Cond.laysFinal "WakeLet$Agency" "WakeLet$Agency" "wages" "[I" ∈ gw := gw_1 (List.mem_of_getElem? (i := 87) rfl) rfl
theorem gk_1_89 : Cond.lays "WakeLet$Agency" "WakeLet$Agency" "clients" "I" ∈ gw := gw_1 (List.mem_of_getElem? (i := 89) rfl) rfl
theorem gk_1_91 : Cond.lays "WakeLet$Agency" "WakeLet$Agency" "wakers" "I" ∈ gw := gw_1 (List.mem_of_getElem? (i := 91) rfl) rfl
theorem gk_1_93 : Cond.lays "WakeLet$Agency" "WakeLet$Agency" "bears" "I" ∈ gw := gw_1 (List.mem_of_getElem? (i := 93) rfl) rfl
theorem gk_1_95 : Cond.lays "WakeLet$Agency" "WakeLet$Agency" "moon" "I" ∈ gw := gw_1 (List.mem_of_getElem? (i := 95) rfl) rfl
theorem gk_1_97 : Cond.lays "WakeLet$Agency" "WakeLet$Agency" "night" "I" ∈ gw := gw_1 (List.mem_of_getElem? (i := 97) rfl) rfl
theorem gk_1_100 : Cond.arrayClass .int ∈ gw := gw_1 (List.mem_of_getElem? (i := 100) rfl) rfl
theorem gk_1_101 : Cond.classLink "WakeLet" 29 "WakeLet$Tape" ∈ gw := gw_1 (List.mem_of_getElem? (i := 101) rfl) rfl
theorem gk_1_102 : Cond.instantiable "WakeLet$Tape" 5 ∈ gw := gw_1 (List.mem_of_getElem? (i := 102) rfl) rfl
theorem gk_1_104 : Cond.instanceMethod ⟨"WakeLet$Tape", "<init>", "()V"⟩ ∈ gw := gw_1 (List.mem_of_getElem? (i := 104) rfl) rfl
theorem gk_1_105 : Cond.code ⟨"WakeLet$Tape", "<init>", "()V"⟩ prog_7_method_1_code 1 none ∈ gw := gw_1 (List.mem_of_getElem? (i := 105) rfl) rfl
theorem gk_1_106 : Cond.methodLink "WakeLet$Tape" 3 ⟨"java/lang/Object", "<init>", "()V"⟩ ∈ gw := gw_1 (List.mem_of_getElem? (i := 106) rfl) rfl
theorem gk_1_107 : Cond.fieldLink "WakeLet$Tape" 9 "WakeLet$Tape" "bytes" "[I" ∈ gw := gw_1 (List.mem_of_getElem? (i := 107) rfl) rfl
theorem gk_1_108 : Cond.fieldLink "WakeLet$Tape" 15 "WakeLet$Tape" "length" "I" ∈ gw := gw_1 (List.mem_of_getElem? (i := 108) rfl) rfl
theorem gk_1_109 : Cond.fieldLink "WakeLet" 108 "WakeLet$Tape" "length" "I" ∈ gw := gw_1 (List.mem_of_getElem? (i := 109) rfl) rfl
theorem gk_1_110 : Cond.fieldLink "WakeLet$Tape" 19 "WakeLet$Tape" "place" "I" ∈ gw := gw_1 (List.mem_of_getElem? (i := 110) rfl) rfl
theorem gk_1_111 : Cond.fieldLink "WakeLet$Tape" 22 "WakeLet$Tape" "fault" "I" ∈ gw := gw_1 (List.mem_of_getElem? (i := 111) rfl) rfl
theorem gk_1_112 : Cond.fieldLink "WakeLet" 116 "WakeLet$Tape" "fault" "I" ∈ gw := gw_1 (List.mem_of_getElem? (i := 112) rfl) rfl
theorem gk_1_113 : Cond.fieldLink "WakeLet" 123 "WakeLet$Tape" "faultPlace" "I" ∈ gw := gw_1 (List.mem_of_getElem? (i := 113) rfl) rfl
theorem gk_1_114 : Cond.fieldLink "WakeLet$Tape" 115 "WakeLet$Tape" "faultPlace" "I" ∈ gw := gw_1 (List.mem_of_getElem? (i := 114) rfl) rfl
theorem gk_1_115 : Cond.laysFinal "WakeLet$Tape" "WakeLet$Tape" "bytes" "[I" ∈ gw := gw_1 (List.mem_of_getElem? (i := 115) rfl) rfl
theorem gk_1_117 : Cond.lays "WakeLet$Tape" "WakeLet$Tape" "length" "I" ∈ gw := gw_1 (List.mem_of_getElem? (i := 117) rfl) rfl
theorem gk_1_119 : Cond.lays "WakeLet$Tape" "WakeLet$Tape" "place" "I" ∈ gw := gw_1 (List.mem_of_getElem? (i := 119) rfl) rfl
theorem gk_1_121 : Cond.lays "WakeLet$Tape" "WakeLet$Tape" "fault" "I" ∈ gw := gw_1 (List.mem_of_getElem? (i := 121) rfl) rfl
theorem gk_1_123 : Cond.lays "WakeLet$Tape" "WakeLet$Tape" "faultPlace" "I" ∈ gw := gw_1 (List.mem_of_getElem? (i := 123) rfl) rfl
theorem gk_1_126 : Cond.classLink "WakeLet" 36 "WakeLet$Acts" ∈ gw := gw_1 (List.mem_of_getElem? (i := 126) rfl) rfl
theorem gk_1_127 : Cond.instantiable "WakeLet$Acts" 3 ∈ gw := gw_1 (List.mem_of_getElem? (i := 127) rfl) rfl
theorem gk_1_129 : Cond.instanceMethod ⟨"WakeLet$Acts", "<init>", "()V"⟩ ∈ gw := gw_1 (List.mem_of_getElem? (i := 129) rfl) rfl
theorem gk_1_130 : Cond.code ⟨"WakeLet$Acts", "<init>", "()V"⟩ prog_2_method_1_code 1 none ∈ gw := gw_1 (List.mem_of_getElem? (i := 130) rfl) rfl
theorem gk_1_131 : Cond.methodLink "WakeLet$Acts" 3 ⟨"java/lang/Object", "<init>", "()V"⟩ ∈ gw := gw_1 (List.mem_of_getElem? (i := 131) rfl) rfl
theorem gk_1_132 : Cond.fieldLink "WakeLet$Acts" 11 "WakeLet$Acts" "log" "[I" ∈ gw := gw_1 (List.mem_of_getElem? (i := 132) rfl) rfl
theorem gk_1_133 : Cond.fieldLink "WakeLet$Acts" 19 "WakeLet$Acts" "first" "I" ∈ gw := gw_1 (List.mem_of_getElem? (i := 133) rfl) rfl
theorem gk_1_134 : Cond.fieldLink "WakeLet$Acts" 15 "WakeLet$Acts" "kept" "I" ∈ gw := gw_1 (List.mem_of_getElem? (i := 134) rfl) rfl
theorem gk_1_135 : Cond.fieldLink "WakeLet" 174 "WakeLet$Acts" "kept" "I" ∈ gw := gw_1 (List.mem_of_getElem? (i := 135) rfl) rfl
theorem gk_1_136 : Cond.laysFinal "WakeLet$Acts" "WakeLet$Acts" "log" "[I" ∈ gw := gw_1 (List.mem_of_getElem? (i := 136) rfl) rfl
theorem gk_1_138 : Cond.lays "WakeLet$Acts" "WakeLet$Acts" "first" "I" ∈ gw := gw_1 (List.mem_of_getElem? (i := 138) rfl) rfl
theorem gk_1_140 : Cond.lays "WakeLet$Acts" "WakeLet$Acts" "kept" "I" ∈ gw := gw_1 (List.mem_of_getElem? (i := 140) rfl) rfl
theorem gk_1_143 : Cond.classLink "WakeLet" 43 "WakeLet$Search" ∈ gw := gw_1 (List.mem_of_getElem? (i := 143) rfl) rfl
theorem gk_1_144 : Cond.instantiable "WakeLet$Search" 8 ∈ gw := gw_1 (List.mem_of_getElem? (i := 144) rfl) rfl
theorem gk_1_146 : Cond.instanceMethod ⟨"WakeLet$Search", "<init>", "()V"⟩ ∈ gw := gw_1 (List.mem_of_getElem? (i := 146) rfl) rfl
theorem gk_1_147 : Cond.code ⟨"WakeLet$Search", "<init>", "()V"⟩ prog_6_method_1_code 1 none ∈ gw := gw_1 (List.mem_of_getElem? (i := 147) rfl) rfl
theorem gk_1_148 : Cond.methodLink "WakeLet$Search" 3 ⟨"java/lang/Object", "<init>", "()V"⟩ ∈ gw := gw_1 (List.mem_of_getElem? (i := 148) rfl) rfl
theorem gk_1_149 : Cond.fieldLink "WakeLet$Search" 9 "WakeLet$Search" "behind" "[I" ∈ gw := gw_1 (List.mem_of_getElem? (i := 149) rfl) rfl
theorem gk_1_150 : Cond.fieldLink "WakeLet$Search" 15 "WakeLet$Search" "taken" "[I" ∈ gw := gw_1 (List.mem_of_getElem? (i := 150) rfl) rfl
theorem gk_1_151 : Cond.fieldLink "WakeLet$Search" 18 "WakeLet$Search" "hiredBy" "[I" ∈ gw := gw_1 (List.mem_of_getElem? (i := 151) rfl) rfl
theorem gk_1_152 : Cond.fieldLink "WakeLet$Search" 21 "WakeLet$Search" "tried" "[I" ∈ gw := gw_1 (List.mem_of_getElem? (i := 152) rfl) rfl
theorem gk_1_153 : Cond.fieldLink "WakeLet$Search" 24 "WakeLet$Search" "chosen" "[I" ∈ gw := gw_1 (List.mem_of_getElem? (i := 153) rfl) rfl
theorem gk_1_154 : Cond.fieldLink "WakeLet" 287 "WakeLet$Search" "chosen" "[I" ∈ gw := gw_1 (List.mem_of_getElem? (i := 154) rfl) rfl
theorem gk_1_155 : Cond.fieldLink "WakeLet$Search" 31 "WakeLet$Search" "resting" "I" ∈ gw := gw_1 (List.mem_of_getElem? (i := 155) rfl) rfl
theorem gk_1_156 : Cond.fieldLink "WakeLet" 212 "WakeLet$Search" "resting" "I" ∈ gw := gw_1 (List.mem_of_getElem? (i := 156) rfl) rfl
theorem gk_1_157 : Cond.fieldLink "WakeLet$Search" 55 "WakeLet$Search" "together" "I" ∈ gw := gw_1 (List.mem_of_getElem? (i := 157) rfl) rfl
theorem gk_1_158 : Cond.fieldLink "WakeLet" 209 "WakeLet$Search" "together" "I" ∈ gw := gw_1 (List.mem_of_getElem? (i := 158) rfl) rfl
theorem gk_1_159 : Cond.fieldLink "WakeLet$Search" 62 "WakeLet$Search" "hired" "I" ∈ gw := gw_1 (List.mem_of_getElem? (i := 159) rfl) rfl
theorem gk_1_160 : Cond.fieldLink "WakeLet" 221 "WakeLet$Search" "hired" "I" ∈ gw := gw_1 (List.mem_of_getElem? (i := 160) rfl) rfl
theorem gk_1_161 : Cond.laysFinal "WakeLet$Search" "WakeLet$Search" "behind" "[I" ∈ gw := gw_1 (List.mem_of_getElem? (i := 161) rfl) rfl
theorem gk_1_163 : Cond.laysFinal "WakeLet$Search" "WakeLet$Search" "taken" "[I" ∈ gw := gw_1 (List.mem_of_getElem? (i := 163) rfl) rfl
theorem gk_1_165 : Cond.laysFinal "WakeLet$Search" "WakeLet$Search" "hiredBy" "[I" ∈ gw := gw_1 (List.mem_of_getElem? (i := 165) rfl) rfl
theorem gk_1_167 : Cond.laysFinal "WakeLet$Search" "WakeLet$Search" "tried" "[I" ∈ gw := gw_1 (List.mem_of_getElem? (i := 167) rfl) rfl
theorem gk_1_169 : Cond.laysFinal "WakeLet$Search" "WakeLet$Search" "chosen" "[I" ∈ gw := gw_1 (List.mem_of_getElem? (i := 169) rfl) rfl
theorem gk_1_171 : Cond.lays "WakeLet$Search" "WakeLet$Search" "resting" "I" ∈ gw := gw_1 (List.mem_of_getElem? (i := 171) rfl) rfl
theorem gk_1_173 : Cond.lays "WakeLet$Search" "WakeLet$Search" "together" "I" ∈ gw := gw_1 (List.mem_of_getElem? (i := 173) rfl) rfl
theorem gk_1_175 : Cond.lays "WakeLet$Search" "WakeLet$Search" "hired" "I" ∈ gw := gw_1 (List.mem_of_getElem? (i := 175) rfl) rfl
theorem gk_1_178 : Cond.classLink "WakeLet" 50 "WakeLet$Asks" ∈ gw := gw_1 (List.mem_of_getElem? (i := 178) rfl) rfl
theorem gk_1_179 : Cond.instantiable "WakeLet$Asks" 2 ∈ gw := gw_1 (List.mem_of_getElem? (i := 179) rfl) rfl
theorem gk_1_181 : Cond.instanceMethod ⟨"WakeLet$Asks", "<init>", "()V"⟩ ∈ gw := gw_1 (List.mem_of_getElem? (i := 181) rfl) rfl
theorem gk_1_182 : Cond.code ⟨"WakeLet$Asks", "<init>", "()V"⟩ prog_4_method_1_code 1 none ∈ gw := gw_1 (List.mem_of_getElem? (i := 182) rfl) rfl
theorem gk_1_183 : Cond.methodLink "WakeLet$Asks" 3 ⟨"java/lang/Object", "<init>", "()V"⟩ ∈ gw := gw_1 (List.mem_of_getElem? (i := 183) rfl) rfl
theorem gk_1_184 : Cond.fieldLink "WakeLet$Asks" 11 "WakeLet$Asks" "numbers" "[I" ∈ gw := gw_1 (List.mem_of_getElem? (i := 184) rfl) rfl
theorem gk_1_185 : Cond.fieldLink "WakeLet" 274 "WakeLet$Asks" "numbers" "[I" ∈ gw := gw_1 (List.mem_of_getElem? (i := 185) rfl) rfl
theorem gk_1_186 : Cond.fieldLink "WakeLet$Asks" 15 "WakeLet$Asks" "traced" "I" ∈ gw := gw_1 (List.mem_of_getElem? (i := 186) rfl) rfl
theorem gk_1_187 : Cond.fieldLink "WakeLet" 271 "WakeLet$Asks" "traced" "I" ∈ gw := gw_1 (List.mem_of_getElem? (i := 187) rfl) rfl
theorem gk_1_188 : Cond.laysFinal "WakeLet$Asks" "WakeLet$Asks" "numbers" "[I" ∈ gw := gw_1 (List.mem_of_getElem? (i := 188) rfl) rfl
theorem gk_1_190 : Cond.lays "WakeLet$Asks" "WakeLet$Asks" "traced" "I" ∈ gw := gw_1 (List.mem_of_getElem? (i := 190) rfl) rfl
theorem gk_1_193 : Cond.instantiable "WakeLet$Row" 3 ∈ gw := gw_1 (List.mem_of_getElem? (i := 193) rfl) rfl
theorem gk_1_195 : Cond.instanceMethod ⟨"WakeLet$Row", "<init>", "()V"⟩ ∈ gw := gw_1 (List.mem_of_getElem? (i := 195) rfl) rfl
theorem gk_1_196 : Cond.code ⟨"WakeLet$Row", "<init>", "()V"⟩ prog_5_method_1_code 1 none ∈ gw := gw_1 (List.mem_of_getElem? (i := 196) rfl) rfl
theorem gk_1_197 : Cond.methodLink "WakeLet$Row" 3 ⟨"java/lang/Object", "<init>", "()V"⟩ ∈ gw := gw_1 (List.mem_of_getElem? (i := 197) rfl) rfl
theorem gk_1_198 : Cond.fieldLink "WakeLet$Row" 9 "WakeLet$Row" "items" "[I" ∈ gw := gw_1 (List.mem_of_getElem? (i := 198) rfl) rfl
theorem gk_1_199 : Cond.fieldLink "WakeLet" 90 "WakeLet$Row" "items" "[I" ∈ gw := gw_1 (List.mem_of_getElem? (i := 199) rfl) rfl
theorem gk_1_200 : Cond.fieldLink "WakeLet$Row" 19 "WakeLet$Row" "lane" "I" ∈ gw := gw_1 (List.mem_of_getElem? (i := 200) rfl) rfl
theorem gk_1_201 : Cond.fieldLink "WakeLet" 86 "WakeLet$Row" "lane" "I" ∈ gw := gw_1 (List.mem_of_getElem? (i := 201) rfl) rfl
theorem gk_1_202 : Cond.fieldLink "WakeLet$Row" 15 "WakeLet$Row" "size" "I" ∈ gw := gw_1 (List.mem_of_getElem? (i := 202) rfl) rfl
theorem gk_1_203 : Cond.laysFinal "WakeLet$Row" "WakeLet$Row" "items" "[I" ∈ gw := gw_1 (List.mem_of_getElem? (i := 203) rfl) rfl
theorem gk_1_205 : Cond.lays "WakeLet$Row" "WakeLet$Row" "lane" "I" ∈ gw := gw_1 (List.mem_of_getElem? (i := 205) rfl) rfl
theorem gk_1_207 : Cond.lays "WakeLet$Row" "WakeLet$Row" "size" "I" ∈ gw := gw_1 (List.mem_of_getElem? (i := 207) rfl) rfl
theorem gk_1_210 : Cond.fieldLink "WakeLet" 11 "WakeLet" "rows" "[LWakeLet$Row;" ∈ gw := gw_1 (List.mem_of_getElem? (i := 210) rfl) rfl
theorem gk_1_211 : Cond.fieldLink "WakeLet" 17 "WakeLet" "images" "[LWakeLet$Agency;" ∈ gw := gw_1 (List.mem_of_getElem? (i := 211) rfl) rfl
theorem gk_1_212 : Cond.fieldLink "WakeLet" 22 "WakeLet" "now" "LWakeLet$Agency;" ∈ gw := gw_1 (List.mem_of_getElem? (i := 212) rfl) rfl
theorem gk_1_213 : Cond.fieldLink "WakeLet" 26 "WakeLet" "trial" "LWakeLet$Agency;" ∈ gw := gw_1 (List.mem_of_getElem? (i := 213) rfl) rfl
theorem gk_1_214 : Cond.fieldLink "WakeLet" 32 "WakeLet" "tape" "LWakeLet$Tape;" ∈ gw := gw_1 (List.mem_of_getElem? (i := 214) rfl) rfl
theorem gk_1_215 : Cond.fieldLink "WakeLet" 39 "WakeLet" "acts" "LWakeLet$Acts;" ∈ gw := gw_1 (List.mem_of_getElem? (i := 215) rfl) rfl
theorem gk_1_216 : Cond.fieldLink "WakeLet" 46 "WakeLet" "search" "LWakeLet$Search;" ∈ gw := gw_1 (List.mem_of_getElem? (i := 216) rfl) rfl
theorem gk_1_217 : Cond.fieldLink "WakeLet" 53 "WakeLet" "asks" "LWakeLet$Asks;" ∈ gw := gw_1 (List.mem_of_getElem? (i := 217) rfl) rfl
theorem gk_1_218 : Cond.fieldLink "WakeLet" 119 "WakeLet" "latestFault" "I" ∈ gw := gw_1 (List.mem_of_getElem? (i := 218) rfl) rfl
theorem gk_1_219 : Cond.fieldLink "WakeLet" 283 "WakeLet" "finding" "I" ∈ gw := gw_1 (List.mem_of_getElem? (i := 219) rfl) rfl
theorem gk_1_220 : Cond.laysFinal "WakeLet" "WakeLet" "rows" "[LWakeLet$Row;" ∈ gw := gw_1 (List.mem_of_getElem? (i := 220) rfl) rfl
theorem gk_1_222 : Cond.laysFinal "WakeLet" "WakeLet" "images" "[LWakeLet$Agency;" ∈ gw := gw_1 (List.mem_of_getElem? (i := 222) rfl) rfl
theorem gk_1_224 : Cond.laysFinal "WakeLet" "WakeLet" "now" "LWakeLet$Agency;" ∈ gw := gw_1 (List.mem_of_getElem? (i := 224) rfl) rfl
theorem gk_1_226 : Cond.laysFinal "WakeLet" "WakeLet" "trial" "LWakeLet$Agency;" ∈ gw := gw_1 (List.mem_of_getElem? (i := 226) rfl) rfl
theorem gk_1_228 : Cond.laysFinal "WakeLet" "WakeLet" "tape" "LWakeLet$Tape;" ∈ gw := gw_1 (List.mem_of_getElem? (i := 228) rfl) rfl
theorem gk_1_230 : Cond.laysFinal "WakeLet" "WakeLet" "acts" "LWakeLet$Acts;" ∈ gw := gw_1 (List.mem_of_getElem? (i := 230) rfl) rfl
theorem gk_1_232 : Cond.laysFinal "WakeLet" "WakeLet" "search" "LWakeLet$Search;" ∈ gw := gw_1 (List.mem_of_getElem? (i := 232) rfl) rfl
theorem gk_1_234 : Cond.laysFinal "WakeLet" "WakeLet" "asks" "LWakeLet$Asks;" ∈ gw := gw_1 (List.mem_of_getElem? (i := 234) rfl) rfl
theorem gk_1_236 : Cond.lays "WakeLet" "WakeLet" "latestFault" "I" ∈ gw := gw_1 (List.mem_of_getElem? (i := 236) rfl) rfl
theorem gk_1_238 : Cond.lays "WakeLet" "WakeLet" "finding" "I" ∈ gw := gw_1 (List.mem_of_getElem? (i := 238) rfl) rfl
theorem gk_2_1 : Cond.methodLink "WakeLetLaw" 13 ⟨"WakeLet", "row", "(III)I"⟩ ∈ gw := gw_2 (List.mem_of_getElem? (i := 1) rfl) rfl
theorem gk_2_2 : Cond.instanceMethod ⟨"WakeLet", "row", "(III)I"⟩ ∈ gw := gw_2 (List.mem_of_getElem? (i := 2) rfl) rfl
theorem gk_2_3 : Cond.selects "WakeLet" ⟨"WakeLet", "row", "(III)I"⟩ ⟨"WakeLet", "row", "(III)I"⟩ ∈ gw := gw_2 (List.mem_of_getElem? (i := 3) rfl) rfl
theorem gk_2_4 : Cond.code ⟨"WakeLet", "row", "(III)I"⟩ prog_1_method_2_code 4 (some FieldType.int) ∈ gw := gw_2 (List.mem_of_getElem? (i := 4) rfl) rfl
theorem gk_2_5 : Cond.methodLink "WakeLet" 58 ⟨"WakeLet", "isWithin", "(III)Z"⟩ ∈ gw := gw_2 (List.mem_of_getElem? (i := 5) rfl) rfl
theorem gk_2_6 : Cond.static ⟨"WakeLet", "isWithin", "(III)Z"⟩ ∈ gw := gw_2 (List.mem_of_getElem? (i := 6) rfl) rfl
theorem gk_2_7 : Cond.code ⟨"WakeLet", "isWithin", "(III)Z"⟩ prog_1_method_35_code 3 (some FieldType.boolean) ∈ gw := gw_2 (List.mem_of_getElem? (i := 7) rfl) rfl
theorem gk_2_8 : Cond.constant "WakeLet" 62 (-1000001) ∈ gw := gw_2 (List.mem_of_getElem? (i := 8) rfl) rfl
theorem gk_2_9 : Cond.methodLink "WakeLet" 63 ⟨"WakeLet", "found", "(I)I"⟩ ∈ gw := gw_2 (List.mem_of_getElem? (i := 9) rfl) rfl
theorem gk_2_11 : Cond.instanceMethod ⟨"WakeLet", "found", "(I)I"⟩ ∈ gw := gw_2 (List.mem_of_getElem? (i := 11) rfl) rfl
theorem gk_2_12 : Cond.code ⟨"WakeLet", "found", "(I)I"⟩ prog_1_method_36_code 2 (some FieldType.int) ∈ gw := gw_2 (List.mem_of_getElem? (i := 12) rfl) rfl
theorem gk_2_13 : Cond.constant "WakeLet" 286 (-1000010) ∈ gw := gw_2 (List.mem_of_getElem? (i := 13) rfl) rfl
theorem gk_2_14 : Cond.methodLink "WakeLet" 67 ⟨"WakeLet$Row", "make", "(II)V"⟩ ∈ gw := gw_2 (List.mem_of_getElem? (i := 14) rfl) rfl
theorem gk_2_15 : Cond.instanceMethod ⟨"WakeLet$Row", "make", "(II)V"⟩ ∈ gw := gw_2 (List.mem_of_getElem? (i := 15) rfl) rfl
theorem gk_2_16 : Cond.selects "WakeLet$Row" ⟨"WakeLet$Row", "make", "(II)V"⟩ ⟨"WakeLet$Row", "make", "(II)V"⟩ ∈ gw := gw_2 (List.mem_of_getElem? (i := 16) rfl) rfl
theorem gk_2_17 : Cond.code ⟨"WakeLet$Row", "make", "(II)V"⟩ prog_5_method_4_code 4 none ∈ gw := gw_2 (List.mem_of_getElem? (i := 17) rfl) rfl
theorem gk_2_18 : Cond.methodLink "WakeLet" 71 ⟨"WakeLet", "unfound", "(I)I"⟩ ∈ gw := gw_2 (List.mem_of_getElem? (i := 18) rfl) rfl
theorem gk_2_20 : Cond.instanceMethod ⟨"WakeLet", "unfound", "(I)I"⟩ ∈ gw := gw_2 (List.mem_of_getElem? (i := 20) rfl) rfl
theorem gk_2_21 : Cond.code ⟨"WakeLet", "unfound", "(I)I"⟩ prog_1_method_37_code 2 (some FieldType.int) ∈ gw := gw_2 (List.mem_of_getElem? (i := 21) rfl) rfl
theorem gk_2_22 : Cond.methodLink "WakeLetLaw" 18 ⟨"WakeLet", "set", "(III)I"⟩ ∈ gw := gw_2 (List.mem_of_getElem? (i := 22) rfl) rfl
theorem gk_2_23 : Cond.instanceMethod ⟨"WakeLet", "set", "(III)I"⟩ ∈ gw := gw_2 (List.mem_of_getElem? (i := 23) rfl) rfl
theorem gk_2_24 : Cond.selects "WakeLet" ⟨"WakeLet", "set", "(III)I"⟩ ⟨"WakeLet", "set", "(III)I"⟩ ∈ gw := gw_2 (List.mem_of_getElem? (i := 24) rfl) rfl
theorem gk_2_25 : Cond.code ⟨"WakeLet", "set", "(III)I"⟩ prog_1_method_3_code 5 (some FieldType.int) ∈ gw := gw_2 (List.mem_of_getElem? (i := 25) rfl) rfl
theorem gk_2_26 : Cond.methodLink "WakeLet" 74 ⟨"WakeLet$Row", "isMissing", "()Z"⟩ ∈ gw := gw_2 (List.mem_of_getElem? (i := 26) rfl) rfl
theorem gk_2_27 : Cond.instanceMethod ⟨"WakeLet$Row", "isMissing", "()Z"⟩ ∈ gw := gw_2 (List.mem_of_getElem? (i := 27) rfl) rfl
theorem gk_2_28 : Cond.selects "WakeLet$Row" ⟨"WakeLet$Row", "isMissing", "()Z"⟩ ⟨"WakeLet$Row", "isMissing", "()Z"⟩ ∈ gw := gw_2 (List.mem_of_getElem? (i := 28) rfl) rfl
theorem gk_2_29 : Cond.code ⟨"WakeLet$Row", "isMissing", "()Z"⟩ prog_5_method_2_code 1 (some FieldType.boolean) ∈ gw := gw_2 (List.mem_of_getElem? (i := 29) rfl) rfl
theorem gk_2_30 : Cond.methodLink "WakeLet" 78 ⟨"WakeLet$Row", "holds", "(II)Z"⟩ ∈ gw := gw_2 (List.mem_of_getElem? (i := 30) rfl) rfl
theorem gk_2_31 : Cond.instanceMethod ⟨"WakeLet$Row", "holds", "(II)Z"⟩ ∈ gw := gw_2 (List.mem_of_getElem? (i := 31) rfl) rfl
theorem gk_2_32 : Cond.selects "WakeLet$Row" ⟨"WakeLet$Row", "holds", "(II)Z"⟩ ⟨"WakeLet$Row", "holds", "(II)Z"⟩ ∈ gw := gw_2 (List.mem_of_getElem? (i := 32) rfl) rfl
theorem gk_2_33 : Cond.code ⟨"WakeLet$Row", "holds", "(II)Z"⟩ prog_5_method_3_code 3 (some FieldType.boolean) ∈ gw := gw_2 (List.mem_of_getElem? (i := 33) rfl) rfl
theorem gk_2_34 : Cond.methodLink "WakeLet" 82 ⟨"WakeLet$Row", "put", "(II)I"⟩ ∈ gw := gw_2 (List.mem_of_getElem? (i := 34) rfl) rfl
theorem gk_2_35 : Cond.instanceMethod ⟨"WakeLet$Row", "put", "(II)I"⟩ ∈ gw := gw_2 (List.mem_of_getElem? (i := 35) rfl) rfl
theorem gk_2_36 : Cond.selects "WakeLet$Row" ⟨"WakeLet$Row", "put", "(II)I"⟩ ⟨"WakeLet$Row", "put", "(II)I"⟩ ∈ gw := gw_2 (List.mem_of_getElem? (i := 36) rfl) rfl
theorem gk_2_37 : Cond.code ⟨"WakeLet$Row", "put", "(II)I"⟩ prog_5_method_5_code 3 (some FieldType.int) ∈ gw := gw_2 (List.mem_of_getElem? (i := 37) rfl) rfl
theorem gk_2_38 : Cond.methodLink "WakeLetLaw" 22 ⟨"WakeLet", "copy", "(IIIII)I"⟩ ∈ gw := gw_2 (List.mem_of_getElem? (i := 38) rfl) rfl
theorem gk_2_39 : Cond.instanceMethod ⟨"WakeLet", "copy", "(IIIII)I"⟩ ∈ gw := gw_2 (List.mem_of_getElem? (i := 39) rfl) rfl
theorem gk_2_40 : Cond.selects "WakeLet" ⟨"WakeLet", "copy", "(IIIII)I"⟩ ⟨"WakeLet", "copy", "(IIIII)I"⟩ ∈ gw := gw_2 (List.mem_of_getElem? (i := 40) rfl) rfl
theorem gk_2_41 : Cond.code ⟨"WakeLet", "copy", "(IIIII)I"⟩ prog_1_method_4_code 8 (some FieldType.int) ∈ gw := gw_2 (List.mem_of_getElem? (i := 41) rfl) rfl
theorem gk_2_42 : Cond.methodLink "WakeLet" 94 ⟨"java/lang/System", "arraycopy", "(Ljava/lang/Object;ILjava/lang/Object;II)V"⟩ ∈ gw := gw_2 (List.mem_of_getElem? (i := 42) rfl) rfl
theorem gk_2_43 : Cond.static ⟨"java/lang/System", "arraycopy", "(Ljava/lang/Object;ILjava/lang/Object;II)V"⟩ ∈ gw := gw_2 (List.mem_of_getElem? (i := 43) rfl) rfl
theorem gk_2_44 : Cond.native ⟨"java/lang/System", "arraycopy", "(Ljava/lang/Object;ILjava/lang/Object;II)V"⟩ ∈ gw := gw_2 (List.mem_of_getElem? (i := 44) rfl) rfl
theorem gk_2_45 : Cond.methodLink "WakeLetLaw" 27 ⟨"WakeLet", "drop", "(I)I"⟩ ∈ gw := gw_2 (List.mem_of_getElem? (i := 45) rfl) rfl
theorem gk_2_46 : Cond.instanceMethod ⟨"WakeLet", "drop", "(I)I"⟩ ∈ gw := gw_2 (List.mem_of_getElem? (i := 46) rfl) rfl
theorem gk_2_47 : Cond.selects "WakeLet" ⟨"WakeLet", "drop", "(I)I"⟩ ⟨"WakeLet", "drop", "(I)I"⟩ ∈ gw := gw_2 (List.mem_of_getElem? (i := 47) rfl) rfl
theorem gk_2_48 : Cond.code ⟨"WakeLet", "drop", "(I)I"⟩ prog_1_method_5_code 3 (some FieldType.int) ∈ gw := gw_2 (List.mem_of_getElem? (i := 48) rfl) rfl
theorem gk_2_49 : Cond.methodLink "WakeLet" 100 ⟨"WakeLet$Row", "lose", "()I"⟩ ∈ gw := gw_2 (List.mem_of_getElem? (i := 49) rfl) rfl
theorem gk_2_50 : Cond.instanceMethod ⟨"WakeLet$Row", "lose", "()I"⟩ ∈ gw := gw_2 (List.mem_of_getElem? (i := 50) rfl) rfl
theorem gk_2_51 : Cond.selects "WakeLet$Row" ⟨"WakeLet$Row", "lose", "()I"⟩ ⟨"WakeLet$Row", "lose", "()I"⟩ ∈ gw := gw_2 (List.mem_of_getElem? (i := 51) rfl) rfl
theorem gk_2_52 : Cond.code ⟨"WakeLet$Row", "lose", "()I"⟩ prog_5_method_6_code 2 (some FieldType.int) ∈ gw := gw_2 (List.mem_of_getElem? (i := 52) rfl) rfl
theorem gk_2_53 : Cond.methodLink "WakeLetLaw" 32 ⟨"WakeLet", "feed", "(I)I"⟩ ∈ gw := gw_2 (List.mem_of_getElem? (i := 53) rfl) rfl
theorem gk_2_54 : Cond.instanceMethod ⟨"WakeLet", "feed", "(I)I"⟩ ∈ gw := gw_2 (List.mem_of_getElem? (i := 54) rfl) rfl
theorem gk_2_55 : Cond.selects "WakeLet" ⟨"WakeLet", "feed", "(I)I"⟩ ⟨"WakeLet", "feed", "(I)I"⟩ ∈ gw := gw_2 (List.mem_of_getElem? (i := 55) rfl) rfl
theorem gk_2_56 : Cond.code ⟨"WakeLet", "feed", "(I)I"⟩ prog_1_method_6_code 2 (some FieldType.int) ∈ gw := gw_2 (List.mem_of_getElem? (i := 56) rfl) rfl
theorem gk_2_57 : Cond.methodLink "WakeLet" 104 ⟨"WakeLet$Tape", "append", "(I)Z"⟩ ∈ gw := gw_2 (List.mem_of_getElem? (i := 57) rfl) rfl
theorem gk_2_58 : Cond.instanceMethod ⟨"WakeLet$Tape", "append", "(I)Z"⟩ ∈ gw := gw_2 (List.mem_of_getElem? (i := 58) rfl) rfl
theorem gk_2_59 : Cond.selects "WakeLet$Tape" ⟨"WakeLet$Tape", "append", "(I)Z"⟩ ⟨"WakeLet$Tape", "append", "(I)Z"⟩ ∈ gw := gw_2 (List.mem_of_getElem? (i := 59) rfl) rfl
theorem gk_2_60 : Cond.code ⟨"WakeLet$Tape", "append", "(I)Z"⟩ prog_7_method_2_code 2 (some FieldType.boolean) ∈ gw := gw_2 (List.mem_of_getElem? (i := 60) rfl) rfl
theorem gk_2_61 : Cond.constant "WakeLet" 111 (-1000003) ∈ gw := gw_2 (List.mem_of_getElem? (i := 61) rfl) rfl
theorem gk_2_62 : Cond.methodLink "WakeLetLaw" 36 ⟨"WakeLet", "agency", "()I"⟩ ∈ gw := gw_2 (List.mem_of_getElem? (i := 62) rfl) rfl
theorem gk_2_63 : Cond.instanceMethod ⟨"WakeLet", "agency", "()I"⟩ ∈ gw := gw_2 (List.mem_of_getElem? (i := 63) rfl) rfl
theorem gk_2_64 : Cond.selects "WakeLet" ⟨"WakeLet", "agency", "()I"⟩ ⟨"WakeLet", "agency", "()I"⟩ ∈ gw := gw_2 (List.mem_of_getElem? (i := 64) rfl) rfl
theorem gk_2_65 : Cond.code ⟨"WakeLet", "agency", "()I"⟩ prog_1_method_7_code 1 (some FieldType.int) ∈ gw := gw_2 (List.mem_of_getElem? (i := 65) rfl) rfl
theorem gk_2_66 : Cond.methodLink "WakeLet" 112 ⟨"WakeLet$Tape", "readInto", "(LWakeLet$Agency;)V"⟩ ∈ gw := gw_2 (List.mem_of_getElem? (i := 66) rfl) rfl
theorem gk_2_67 : Cond.instanceMethod ⟨"WakeLet$Tape", "readInto", "(LWakeLet$Agency;)V"⟩ ∈ gw := gw_2 (List.mem_of_getElem? (i := 67) rfl) rfl
theorem gk_2_68 : Cond.selects "WakeLet$Tape" ⟨"WakeLet$Tape", "readInto", "(LWakeLet$Agency;)V"⟩ ⟨"WakeLet$Tape", "readInto", "(LWakeLet$Agency;)V"⟩ ∈ gw := gw_2 (List.mem_of_getElem? (i := 68) rfl) rfl
theorem gk_2_69 : Cond.code ⟨"WakeLet$Tape", "readInto", "(LWakeLet$Agency;)V"⟩ prog_7_method_3_code 2 none ∈ gw := gw_2 (List.mem_of_getElem? (i := 69) rfl) rfl
theorem gk_2_70 : Cond.methodLink "WakeLet$Tape" 25 ⟨"WakeLet$Agency", "close", "()V"⟩ ∈ gw := gw_2 (List.mem_of_getElem? (i := 70) rfl) rfl
theorem gk_2_71 : Cond.instanceMethod ⟨"WakeLet$Agency", "close", "()V"⟩ ∈ gw := gw_2 (List.mem_of_getElem? (i := 71) rfl) rfl
theorem gk_2_72 : Cond.selects "WakeLet$Agency" ⟨"WakeLet$Agency", "close", "()V"⟩ ⟨"WakeLet$Agency", "close", "()V"⟩ ∈ gw := gw_2 (List.mem_of_getElem? (i := 72) rfl) rfl
theorem gk_2_73 : Cond.code ⟨"WakeLet$Agency", "close", "()V"⟩ prog_3_method_2_code 1 none ∈ gw := gw_2 (List.mem_of_getElem? (i := 73) rfl) rfl
theorem gk_2_74 : Cond.methodLink "WakeLet$Tape" 30 ⟨"WakeLet$Tape", "readLaw", "(LWakeLet$Agency;)V"⟩ ∈ gw := gw_2 (List.mem_of_getElem? (i := 74) rfl) rfl
theorem gk_2_76 : Cond.instanceMethod ⟨"WakeLet$Tape", "readLaw", "(LWakeLet$Agency;)V"⟩ ∈ gw := gw_2 (List.mem_of_getElem? (i := 76) rfl) rfl
theorem gk_2_77 : Cond.code ⟨"WakeLet$Tape", "readLaw", "(LWakeLet$Agency;)V"⟩ prog_7_method_4_code 2 none ∈ gw := gw_2 (List.mem_of_getElem? (i := 77) rfl) rfl
theorem gk_2_78 : Cond.methodLink "WakeLet$Tape" 44 ⟨"WakeLet$Tape", "expect", "(I)V"⟩ ∈ gw := gw_2 (List.mem_of_getElem? (i := 78) rfl) rfl
theorem gk_2_80 : Cond.instanceMethod ⟨"WakeLet$Tape", "expect", "(I)V"⟩ ∈ gw := gw_2 (List.mem_of_getElem? (i := 80) rfl) rfl
theorem gk_2_81 : Cond.code ⟨"WakeLet$Tape", "expect", "(I)V"⟩ prog_7_method_12_code 2 none ∈ gw := gw_2 (List.mem_of_getElem? (i := 81) rfl) rfl
theorem gk_2_82 : Cond.methodLink "WakeLet$Tape" 61 ⟨"WakeLet$Tape", "next", "()I"⟩ ∈ gw := gw_2 (List.mem_of_getElem? (i := 82) rfl) rfl
theorem gk_2_84 : Cond.instanceMethod ⟨"WakeLet$Tape", "next", "()I"⟩ ∈ gw := gw_2 (List.mem_of_getElem? (i := 84) rfl) rfl
theorem gk_2_85 : Cond.code ⟨"WakeLet$Tape", "next", "()I"⟩ prog_7_method_14_code 1 (some FieldType.int) ∈ gw := gw_2 (List.mem_of_getElem? (i := 85) rfl) rfl
theorem gk_2_86 : Cond.methodLink "WakeLet$Tape" 40 ⟨"WakeLet$Tape", "fail", "(II)V"⟩ ∈ gw := gw_2 (List.mem_of_getElem? (i := 86) rfl) rfl
theorem gk_2_88 : Cond.instanceMethod ⟨"WakeLet$Tape", "fail", "(II)V"⟩ ∈ gw := gw_2 (List.mem_of_getElem? (i := 88) rfl) rfl
theorem gk_2_89 : Cond.code ⟨"WakeLet$Tape", "fail", "(II)V"⟩ prog_7_method_15_code 3 none ∈ gw := gw_2 (List.mem_of_getElem? (i := 89) rfl) rfl
theorem gk_2_90 : Cond.methodLink "WakeLet$Tape" 48 ⟨"WakeLet$Tape", "number", "(I)I"⟩ ∈ gw := gw_2 (List.mem_of_getElem? (i := 90) rfl) rfl
theorem gk_2_92 : Cond.instanceMethod ⟨"WakeLet$Tape", "number", "(I)I"⟩ ∈ gw := gw_2 (List.mem_of_getElem? (i := 92) rfl) rfl
theorem gk_2_93 : Cond.code ⟨"WakeLet$Tape", "number", "(I)I"⟩ prog_7_method_11_code 5 (some FieldType.int) ∈ gw := gw_2 (List.mem_of_getElem? (i := 93) rfl) rfl
theorem gk_2_94 : Cond.methodLink "WakeLet$Tape" 106 ⟨"WakeLet$Tape", "isFigure", "(I)Z"⟩ ∈ gw := gw_2 (List.mem_of_getElem? (i := 94) rfl) rfl
theorem gk_2_95 : Cond.static ⟨"WakeLet$Tape", "isFigure", "(I)Z"⟩ ∈ gw := gw_2 (List.mem_of_getElem? (i := 95) rfl) rfl
theorem gk_2_96 : Cond.code ⟨"WakeLet$Tape", "isFigure", "(I)Z"⟩ prog_7_method_13_code 1 (some FieldType.boolean) ∈ gw := gw_2 (List.mem_of_getElem? (i := 96) rfl) rfl
theorem gk_2_97 : Cond.methodLink "WakeLet$Tape" 109 ⟨"java/lang/Math", "min", "(II)I"⟩ ∈ gw := gw_2 (List.mem_of_getElem? (i := 97) rfl) rfl
theorem gk_2_98 : Cond.static ⟨"java/lang/Math", "min", "(II)I"⟩ ∈ gw := gw_2 (List.mem_of_getElem? (i := 98) rfl) rfl
theorem gk_2_99 : Cond.code ⟨"java/lang/Math", "min", "(II)I"⟩ prog_11_method_69_code 2 (some FieldType.int) ∈ gw := gw_2 (List.mem_of_getElem? (i := 99) rfl) rfl
theorem gk_2_100 : Cond.methodLink "WakeLet$Tape" 34 ⟨"WakeLet$Tape", "readClients", "(LWakeLet$Agency;)V"⟩ ∈ gw := gw_2 (List.mem_of_getElem? (i := 100) rfl) rfl
theorem gk_2_102 : Cond.instanceMethod ⟨"WakeLet$Tape", "readClients", "(LWakeLet$Agency;)V"⟩ ∈ gw := gw_2 (List.mem_of_getElem? (i := 102) rfl) rfl
theorem gk_2_103 : Cond.code ⟨"WakeLet$Tape", "readClients", "(LWakeLet$Agency;)V"⟩ prog_7_method_5_code 3 none ∈ gw := gw_2 (List.mem_of_getElem? (i := 103) rfl) rfl
theorem gk_2_104 : Cond.methodLink "WakeLet$Tape" 58 ⟨"WakeLet$Tape", "readClient", "(LWakeLet$Agency;)V"⟩ ∈ gw := gw_2 (List.mem_of_getElem? (i := 104) rfl) rfl
theorem gk_2_106 : Cond.instanceMethod ⟨"WakeLet$Tape", "readClient", "(LWakeLet$Agency;)V"⟩ ∈ gw := gw_2 (List.mem_of_getElem? (i := 106) rfl) rfl
theorem gk_2_107 : Cond.code ⟨"WakeLet$Tape", "readClient", "(LWakeLet$Agency;)V"⟩ prog_7_method_6_code 3 none ∈ gw := gw_2 (List.mem_of_getElem? (i := 107) rfl) rfl
theorem gk_2_108 : Cond.methodLink "WakeLet$Tape" 37 ⟨"WakeLet$Tape", "readWakers", "(LWakeLet$Agency;)V"⟩ ∈ gw := gw_2 (List.mem_of_getElem? (i := 108) rfl) rfl
theorem gk_2_110 : Cond.instanceMethod ⟨"WakeLet$Tape", "readWakers", "(LWakeLet$Agency;)V"⟩ ∈ gw := gw_2 (List.mem_of_getElem? (i := 110) rfl) rfl
theorem gk_2_111 : Cond.code ⟨"WakeLet$Tape", "readWakers", "(LWakeLet$Agency;)V"⟩ prog_7_method_7_code 3 none ∈ gw := gw_2 (List.mem_of_getElem? (i := 111) rfl) rfl
theorem gk_2_112 : Cond.methodLink "WakeLet$Tape" 74 ⟨"WakeLet$Tape", "kindTold", "(I)I"⟩ ∈ gw := gw_2 (List.mem_of_getElem? (i := 112) rfl) rfl
theorem gk_2_113 : Cond.static ⟨"WakeLet$Tape", "kindTold", "(I)I"⟩ ∈ gw := gw_2 (List.mem_of_getElem? (i := 113) rfl) rfl
theorem gk_2_114 : Cond.code ⟨"WakeLet$Tape", "kindTold", "(I)I"⟩ prog_7_method_9_code 1 (some FieldType.int) ∈ gw := gw_2 (List.mem_of_getElem? (i := 114) rfl) rfl
theorem gk_2_115 : Cond.methodLink "WakeLet$Tape" 77 ⟨"WakeLet$Tape", "readWaker", "(LWakeLet$Agency;)V"⟩ ∈ gw := gw_2 (List.mem_of_getElem? (i := 115) rfl) rfl
theorem gk_2_117 : Cond.instanceMethod ⟨"WakeLet$Tape", "readWaker", "(LWakeLet$Agency;)V"⟩ ∈ gw := gw_2 (List.mem_of_getElem? (i := 117) rfl) rfl
theorem gk_2_118 : Cond.code ⟨"WakeLet$Tape", "readWaker", "(LWakeLet$Agency;)V"⟩ prog_7_method_8_code 3 none ∈ gw := gw_2 (List.mem_of_getElem? (i := 118) rfl) rfl
theorem gk_2_119 : Cond.methodLink "WakeLet$Tape" 95 ⟨"WakeLet$Tape", "hirer", "(LWakeLet$Agency;)I"⟩ ∈ gw := gw_2 (List.mem_of_getElem? (i := 119) rfl) rfl
theorem gk_2_121 : Cond.instanceMethod ⟨"WakeLet$Tape", "hirer", "(LWakeLet$Agency;)I"⟩ ∈ gw := gw_2 (List.mem_of_getElem? (i := 121) rfl) rfl
theorem gk_2_122 : Cond.code ⟨"WakeLet$Tape", "hirer", "(LWakeLet$Agency;)I"⟩ prog_7_method_10_code 4 (some FieldType.int) ∈ gw := gw_2 (List.mem_of_getElem? (i := 122) rfl) rfl
theorem gk_2_123 : Cond.methodLink "WakeLet$Tape" 102 ⟨"WakeLet$Agency", "hasClient", "(I)Z"⟩ ∈ gw := gw_2 (List.mem_of_getElem? (i := 123) rfl) rfl
theorem gk_2_124 : Cond.instanceMethod ⟨"WakeLet$Agency", "hasClient", "(I)Z"⟩ ∈ gw := gw_2 (List.mem_of_getElem? (i := 124) rfl) rfl
theorem gk_2_125 : Cond.selects "WakeLet$Agency" ⟨"WakeLet$Agency", "hasClient", "(I)Z"⟩ ⟨"WakeLet$Agency", "hasClient", "(I)Z"⟩ ∈ gw := gw_2 (List.mem_of_getElem? (i := 125) rfl) rfl
theorem gk_2_126 : Cond.code ⟨"WakeLet$Agency", "hasClient", "(I)Z"⟩ prog_3_method_5_code 2 (some FieldType.boolean) ∈ gw := gw_2 (List.mem_of_getElem? (i := 126) rfl) rfl
theorem gk_2_127 : Cond.constant "WakeLet" 122 (-1000100) ∈ gw := gw_2 (List.mem_of_getElem? (i := 127) rfl) rfl
theorem gk_2_128 : Cond.methodLink "WakeLet" 126 ⟨"WakeLet$Agency", "copyFrom", "(LWakeLet$Agency;)V"⟩ ∈ gw := gw_2 (List.mem_of_getElem? (i := 128) rfl) rfl
theorem gk_2_129 : Cond.instanceMethod ⟨"WakeLet$Agency", "copyFrom", "(LWakeLet$Agency;)V"⟩ ∈ gw := gw_2 (List.mem_of_getElem? (i := 129) rfl) rfl
theorem gk_2_130 : Cond.selects "WakeLet$Agency" ⟨"WakeLet$Agency", "copyFrom", "(LWakeLet$Agency;)V"⟩ ⟨"WakeLet$Agency", "copyFrom", "(LWakeLet$Agency;)V"⟩ ∈ gw := gw_2 (List.mem_of_getElem? (i := 130) rfl) rfl
theorem gk_2_131 : Cond.code ⟨"WakeLet$Agency", "copyFrom", "(LWakeLet$Agency;)V"⟩ prog_3_method_3_code 2 none ∈ gw := gw_2 (List.mem_of_getElem? (i := 131) rfl) rfl
theorem gk_2_132 : Cond.methodLink "WakeLet$Agency" 43 ⟨"java/lang/System", "arraycopy", "(Ljava/lang/Object;ILjava/lang/Object;II)V"⟩ ∈ gw := gw_2 (List.mem_of_getElem? (i := 132) rfl) rfl
theorem gk_2_133 : Cond.methodLink "WakeLet" 129 ⟨"WakeLet$Acts", "forgetAll", "()V"⟩ ∈ gw := gw_2 (List.mem_of_getElem? (i := 133) rfl) rfl
theorem gk_2_134 : Cond.instanceMethod ⟨"WakeLet$Acts", "forgetAll", "()V"⟩ ∈ gw := gw_2 (List.mem_of_getElem? (i := 134) rfl) rfl
theorem gk_2_135 : Cond.selects "WakeLet$Acts" ⟨"WakeLet$Acts", "forgetAll", "()V"⟩ ⟨"WakeLet$Acts", "forgetAll", "()V"⟩ ∈ gw := gw_2 (List.mem_of_getElem? (i := 135) rfl) rfl
theorem gk_2_136 : Cond.code ⟨"WakeLet$Acts", "forgetAll", "()V"⟩ prog_2_method_2_code 1 none ∈ gw := gw_2 (List.mem_of_getElem? (i := 136) rfl) rfl
theorem gk_2_137 : Cond.methodLink "WakeLetLaw" 41 ⟨"WakeLet", "fault", "()I"⟩ ∈ gw := gw_2 (List.mem_of_getElem? (i := 137) rfl) rfl
theorem gk_2_138 : Cond.instanceMethod ⟨"WakeLet", "fault", "()I"⟩ ∈ gw := gw_2 (List.mem_of_getElem? (i := 138) rfl) rfl
theorem gk_2_139 : Cond.selects "WakeLet" ⟨"WakeLet", "fault", "()I"⟩ ⟨"WakeLet", "fault", "()I"⟩ ∈ gw := gw_2 (List.mem_of_getElem? (i := 139) rfl) rfl
theorem gk_2_140 : Cond.code ⟨"WakeLet", "fault", "()I"⟩ prog_1_method_8_code 1 (some FieldType.int) ∈ gw := gw_2 (List.mem_of_getElem? (i := 140) rfl) rfl
theorem gk_2_141 : Cond.methodLink "WakeLetLaw" 45 ⟨"WakeLet", "nights", "(I)I"⟩ ∈ gw := gw_2 (List.mem_of_getElem? (i := 141) rfl) rfl
theorem gk_2_142 : Cond.instanceMethod ⟨"WakeLet", "nights", "(I)I"⟩ ∈ gw := gw_2 (List.mem_of_getElem? (i := 142) rfl) rfl
theorem gk_2_143 : Cond.selects "WakeLet" ⟨"WakeLet", "nights", "(I)I"⟩ ⟨"WakeLet", "nights", "(I)I"⟩ ∈ gw := gw_2 (List.mem_of_getElem? (i := 143) rfl) rfl
theorem gk_2_144 : Cond.code ⟨"WakeLet", "nights", "(I)I"⟩ prog_1_method_9_code 3 (some FieldType.int) ∈ gw := gw_2 (List.mem_of_getElem? (i := 144) rfl) rfl
theorem gk_2_145 : Cond.methodLink "WakeLet" 135 ⟨"WakeLet$Agency", "isOpen", "()Z"⟩ ∈ gw := gw_2 (List.mem_of_getElem? (i := 145) rfl) rfl
theorem gk_2_146 : Cond.instanceMethod ⟨"WakeLet$Agency", "isOpen", "()Z"⟩ ∈ gw := gw_2 (List.mem_of_getElem? (i := 146) rfl) rfl
theorem gk_2_147 : Cond.selects "WakeLet$Agency" ⟨"WakeLet$Agency", "isOpen", "()Z"⟩ ⟨"WakeLet$Agency", "isOpen", "()Z"⟩ ∈ gw := gw_2 (List.mem_of_getElem? (i := 147) rfl) rfl
theorem gk_2_148 : Cond.code ⟨"WakeLet$Agency", "isOpen", "()Z"⟩ prog_3_method_4_code 1 (some FieldType.boolean) ∈ gw := gw_2 (List.mem_of_getElem? (i := 148) rfl) rfl
theorem gk_2_149 : Cond.constant "WakeLet" 138 (-1000002) ∈ gw := gw_2 (List.mem_of_getElem? (i := 149) rfl) rfl
theorem gk_2_150 : Cond.methodLink "WakeLet" 142 ⟨"WakeLet$Acts", "keep", "(LWakeLet$Agency;)V"⟩ ∈ gw := gw_2 (List.mem_of_getElem? (i := 150) rfl) rfl
theorem gk_2_151 : Cond.instanceMethod ⟨"WakeLet$Acts", "keep", "(LWakeLet$Agency;)V"⟩ ∈ gw := gw_2 (List.mem_of_getElem? (i := 151) rfl) rfl
theorem gk_2_152 : Cond.selects "WakeLet$Acts" ⟨"WakeLet$Acts", "keep", "(LWakeLet$Agency;)V"⟩ ⟨"WakeLet$Acts", "keep", "(LWakeLet$Agency;)V"⟩ ∈ gw := gw_2 (List.mem_of_getElem? (i := 152) rfl) rfl
theorem gk_2_153 : Cond.code ⟨"WakeLet$Acts", "keep", "(LWakeLet$Agency;)V"⟩ prog_2_method_3_code 3 none ∈ gw := gw_2 (List.mem_of_getElem? (i := 153) rfl) rfl
theorem gk_2_154 : Cond.methodLink "WakeLet$Acts" 22 ⟨"WakeLet$Acts", "startOf", "(I)I"⟩ ∈ gw := gw_2 (List.mem_of_getElem? (i := 154) rfl) rfl
theorem gk_2_156 : Cond.instanceMethod ⟨"WakeLet$Acts", "startOf", "(I)I"⟩ ∈ gw := gw_2 (List.mem_of_getElem? (i := 156) rfl) rfl
theorem gk_2_157 : Cond.code ⟨"WakeLet$Acts", "startOf", "(I)I"⟩ prog_2_method_5_code 2 (some FieldType.int) ∈ gw := gw_2 (List.mem_of_getElem? (i := 157) rfl) rfl
theorem gk_2_158 : Cond.methodLink "WakeLet$Acts" 34 ⟨"java/lang/System", "arraycopy", "(Ljava/lang/Object;ILjava/lang/Object;II)V"⟩ ∈ gw := gw_2 (List.mem_of_getElem? (i := 158) rfl) rfl
theorem gk_2_159 : Cond.methodLink "WakeLet" 145 ⟨"WakeLet$Agency", "passNight", "(I)V"⟩ ∈ gw := gw_2 (List.mem_of_getElem? (i := 159) rfl) rfl
theorem gk_2_160 : Cond.instanceMethod ⟨"WakeLet$Agency", "passNight", "(I)V"⟩ ∈ gw := gw_2 (List.mem_of_getElem? (i := 160) rfl) rfl
theorem gk_2_161 : Cond.selects "WakeLet$Agency" ⟨"WakeLet$Agency", "passNight", "(I)V"⟩ ⟨"WakeLet$Agency", "passNight", "(I)V"⟩ ∈ gw := gw_2 (List.mem_of_getElem? (i := 161) rfl) rfl
theorem gk_2_162 : Cond.code ⟨"WakeLet$Agency", "passNight", "(I)V"⟩ prog_3_method_13_code 3 none ∈ gw := gw_2 (List.mem_of_getElem? (i := 162) rfl) rfl
theorem gk_2_163 : Cond.methodLink "WakeLet$Agency" 85 ⟨"WakeLet$Agency", "lighterBy", "(II)I"⟩ ∈ gw := gw_2 (List.mem_of_getElem? (i := 163) rfl) rfl
theorem gk_2_164 : Cond.instanceMethod ⟨"WakeLet$Agency", "lighterBy", "(II)I"⟩ ∈ gw := gw_2 (List.mem_of_getElem? (i := 164) rfl) rfl
theorem gk_2_165 : Cond.selects "WakeLet$Agency" ⟨"WakeLet$Agency", "lighterBy", "(II)I"⟩ ⟨"WakeLet$Agency", "lighterBy", "(II)I"⟩ ∈ gw := gw_2 (List.mem_of_getElem? (i := 165) rfl) rfl
theorem gk_2_166 : Cond.code ⟨"WakeLet$Agency", "lighterBy", "(II)I"⟩ prog_3_method_11_code 6 (some FieldType.int) ∈ gw := gw_2 (List.mem_of_getElem? (i := 166) rfl) rfl
theorem gk_2_167 : Cond.methodLink "WakeLet$Agency" 75 ⟨"WakeLet$Agency", "hiredBy", "(I)I"⟩ ∈ gw := gw_2 (List.mem_of_getElem? (i := 167) rfl) rfl
theorem gk_2_168 : Cond.instanceMethod ⟨"WakeLet$Agency", "hiredBy", "(I)I"⟩ ∈ gw := gw_2 (List.mem_of_getElem? (i := 168) rfl) rfl
theorem gk_2_169 : Cond.selects "WakeLet$Agency" ⟨"WakeLet$Agency", "hiredBy", "(I)I"⟩ ⟨"WakeLet$Agency", "hiredBy", "(I)I"⟩ ∈ gw := gw_2 (List.mem_of_getElem? (i := 169) rfl) rfl
theorem gk_2_170 : Cond.code ⟨"WakeLet$Agency", "hiredBy", "(I)I"⟩ prog_3_method_12_code 4 (some FieldType.int) ∈ gw := gw_2 (List.mem_of_getElem? (i := 170) rfl) rfl
theorem gk_2_171 : Cond.methodLink "WakeLet$Agency" 79 ⟨"WakeLet$Agency", "takenBy", "(III)I"⟩ ∈ gw := gw_2 (List.mem_of_getElem? (i := 171) rfl) rfl
theorem gk_2_172 : Cond.instanceMethod ⟨"WakeLet$Agency", "takenBy", "(III)I"⟩ ∈ gw := gw_2 (List.mem_of_getElem? (i := 172) rfl) rfl
theorem gk_2_173 : Cond.selects "WakeLet$Agency" ⟨"WakeLet$Agency", "takenBy", "(III)I"⟩ ⟨"WakeLet$Agency", "takenBy", "(III)I"⟩ ∈ gw := gw_2 (List.mem_of_getElem? (i := 173) rfl) rfl
theorem gk_2_174 : Cond.code ⟨"WakeLet$Agency", "takenBy", "(III)I"⟩ prog_3_method_10_code 5 (some FieldType.int) ∈ gw := gw_2 (List.mem_of_getElem? (i := 174) rfl) rfl
theorem gk_2_175 : Cond.methodLink "WakeLet$Agency" 55 ⟨"WakeLet$Agency", "hasWaker", "(I)Z"⟩ ∈ gw := gw_2 (List.mem_of_getElem? (i := 175) rfl) rfl
theorem gk_2_176 : Cond.instanceMethod ⟨"WakeLet$Agency", "hasWaker", "(I)Z"⟩ ∈ gw := gw_2 (List.mem_of_getElem? (i := 176) rfl) rfl
theorem gk_2_177 : Cond.selects "WakeLet$Agency" ⟨"WakeLet$Agency", "hasWaker", "(I)Z"⟩ ⟨"WakeLet$Agency", "hasWaker", "(I)Z"⟩ ∈ gw := gw_2 (List.mem_of_getElem? (i := 177) rfl) rfl
theorem gk_2_178 : Cond.code ⟨"WakeLet$Agency", "hasWaker", "(I)Z"⟩ prog_3_method_6_code 2 (some FieldType.boolean) ∈ gw := gw_2 (List.mem_of_getElem? (i := 178) rfl) rfl
theorem gk_2_179 : Cond.methodLink "WakeLet$Agency" 59 ⟨"WakeLet$Agency", "hasClient", "(I)Z"⟩ ∈ gw := gw_2 (List.mem_of_getElem? (i := 179) rfl) rfl
theorem gk_2_180 : Cond.methodLink "WakeLet$Agency" 71 ⟨"WakeLet$Agency", "lying", "(III)I"⟩ ∈ gw := gw_2 (List.mem_of_getElem? (i := 180) rfl) rfl
theorem gk_2_181 : Cond.instanceMethod ⟨"WakeLet$Agency", "lying", "(III)I"⟩ ∈ gw := gw_2 (List.mem_of_getElem? (i := 181) rfl) rfl
theorem gk_2_182 : Cond.selects "WakeLet$Agency" ⟨"WakeLet$Agency", "lying", "(III)I"⟩ ⟨"WakeLet$Agency", "lying", "(III)I"⟩ ∈ gw := gw_2 (List.mem_of_getElem? (i := 182) rfl) rfl
theorem gk_2_183 : Cond.code ⟨"WakeLet$Agency", "lying", "(III)I"⟩ prog_3_method_8_code 5 (some FieldType.int) ∈ gw := gw_2 (List.mem_of_getElem? (i := 183) rfl) rfl
theorem gk_2_184 : Cond.methodLink "WakeLet$Agency" 62 ⟨"WakeLet$Agency", "guarding", "(II)I"⟩ ∈ gw := gw_2 (List.mem_of_getElem? (i := 184) rfl) rfl
theorem gk_2_185 : Cond.static ⟨"WakeLet$Agency", "guarding", "(II)I"⟩ ∈ gw := gw_2 (List.mem_of_getElem? (i := 185) rfl) rfl
theorem gk_2_186 : Cond.code ⟨"WakeLet$Agency", "guarding", "(II)I"⟩ prog_3_method_9_code 2 (some FieldType.int) ∈ gw := gw_2 (List.mem_of_getElem? (i := 186) rfl) rfl
theorem gk_2_187 : Cond.methodLink "WakeLet$Agency" 66 ⟨"java/lang/Math", "min", "(II)I"⟩ ∈ gw := gw_2 (List.mem_of_getElem? (i := 187) rfl) rfl
theorem gk_2_188 : Cond.methodLink "WakeLet$Agency" 82 ⟨"java/lang/Math", "max", "(II)I"⟩ ∈ gw := gw_2 (List.mem_of_getElem? (i := 188) rfl) rfl
theorem gk_2_189 : Cond.static ⟨"java/lang/Math", "max", "(II)I"⟩ ∈ gw := gw_2 (List.mem_of_getElem? (i := 189) rfl) rfl
theorem gk_2_190 : Cond.code ⟨"java/lang/Math", "max", "(II)I"⟩ prog_11_method_65_code 2 (some FieldType.int) ∈ gw := gw_2 (List.mem_of_getElem? (i := 190) rfl) rfl
theorem gk_2_191 : Cond.methodLink "WakeLet$Agency" 88 ⟨"WakeLet$Agency", "nextWeight", "(II)I"⟩ ∈ gw := gw_2 (List.mem_of_getElem? (i := 191) rfl) rfl
theorem gk_2_192 : Cond.static ⟨"WakeLet$Agency", "nextWeight", "(II)I"⟩ ∈ gw := gw_2 (List.mem_of_getElem? (i := 192) rfl) rfl
theorem gk_2_193 : Cond.code ⟨"WakeLet$Agency", "nextWeight", "(II)I"⟩ prog_3_method_14_code 2 (some FieldType.int) ∈ gw := gw_2 (List.mem_of_getElem? (i := 193) rfl) rfl
theorem gk_2_194 : Cond.methodLink "WakeLet" 149 ⟨"WakeLet$Agency", "resting", "()I"⟩ ∈ gw := gw_2 (List.mem_of_getElem? (i := 194) rfl) rfl
theorem gk_2_195 : Cond.instanceMethod ⟨"WakeLet$Agency", "resting", "()I"⟩ ∈ gw := gw_2 (List.mem_of_getElem? (i := 195) rfl) rfl
theorem gk_2_196 : Cond.selects "WakeLet$Agency" ⟨"WakeLet$Agency", "resting", "()I"⟩ ⟨"WakeLet$Agency", "resting", "()I"⟩ ∈ gw := gw_2 (List.mem_of_getElem? (i := 196) rfl) rfl
theorem gk_2_197 : Cond.code ⟨"WakeLet$Agency", "resting", "()I"⟩ prog_3_method_16_code 3 (some FieldType.int) ∈ gw := gw_2 (List.mem_of_getElem? (i := 197) rfl) rfl
theorem gk_2_198 : Cond.methodLink "WakeLetLaw" 49 ⟨"WakeLet", "let", "(II)I"⟩ ∈ gw := gw_2 (List.mem_of_getElem? (i := 198) rfl) rfl
theorem gk_2_199 : Cond.instanceMethod ⟨"WakeLet", "let", "(II)I"⟩ ∈ gw := gw_2 (List.mem_of_getElem? (i := 199) rfl) rfl
theorem gk_2_200 : Cond.selects "WakeLet" ⟨"WakeLet", "let", "(II)I"⟩ ⟨"WakeLet", "let", "(II)I"⟩ ∈ gw := gw_2 (List.mem_of_getElem? (i := 200) rfl) rfl
theorem gk_2_201 : Cond.code ⟨"WakeLet", "let", "(II)I"⟩ prog_1_method_10_code 4 (some FieldType.int) ∈ gw := gw_2 (List.mem_of_getElem? (i := 201) rfl) rfl
theorem gk_2_202 : Cond.methodLink "WakeLet" 152 ⟨"WakeLet$Agency", "hasWaker", "(I)Z"⟩ ∈ gw := gw_2 (List.mem_of_getElem? (i := 202) rfl) rfl
theorem gk_2_203 : Cond.methodLink "WakeLet" 155 ⟨"WakeLet$Agency", "hasClient", "(I)Z"⟩ ∈ gw := gw_2 (List.mem_of_getElem? (i := 203) rfl) rfl
theorem gk_2_204 : Cond.methodLink "WakeLetLaw" 54 ⟨"WakeLet", "grow", "(II)I"⟩ ∈ gw := gw_2 (List.mem_of_getElem? (i := 204) rfl) rfl
theorem gk_2_205 : Cond.instanceMethod ⟨"WakeLet", "grow", "(II)I"⟩ ∈ gw := gw_2 (List.mem_of_getElem? (i := 205) rfl) rfl
theorem gk_2_206 : Cond.selects "WakeLet" ⟨"WakeLet", "grow", "(II)I"⟩ ⟨"WakeLet", "grow", "(II)I"⟩ ∈ gw := gw_2 (List.mem_of_getElem? (i := 206) rfl) rfl
theorem gk_2_207 : Cond.code ⟨"WakeLet", "grow", "(II)I"⟩ prog_1_method_11_code 3 (some FieldType.int) ∈ gw := gw_2 (List.mem_of_getElem? (i := 207) rfl) rfl
theorem gk_2_208 : Cond.methodLink "WakeLet" 161 ⟨"WakeLet$Agency", "makeHeavier", "(II)V"⟩ ∈ gw := gw_2 (List.mem_of_getElem? (i := 208) rfl) rfl
theorem gk_2_209 : Cond.instanceMethod ⟨"WakeLet$Agency", "makeHeavier", "(II)V"⟩ ∈ gw := gw_2 (List.mem_of_getElem? (i := 209) rfl) rfl
theorem gk_2_210 : Cond.selects "WakeLet$Agency" ⟨"WakeLet$Agency", "makeHeavier", "(II)V"⟩ ⟨"WakeLet$Agency", "makeHeavier", "(II)V"⟩ ∈ gw := gw_2 (List.mem_of_getElem? (i := 210) rfl) rfl
theorem gk_2_211 : Cond.code ⟨"WakeLet$Agency", "makeHeavier", "(II)V"⟩ prog_3_method_15_code 3 none ∈ gw := gw_2 (List.mem_of_getElem? (i := 211) rfl) rfl
theorem gk_2_212 : Cond.methodLink "WakeLetLaw" 58 ⟨"WakeLet", "learn", "(II)I"⟩ ∈ gw := gw_2 (List.mem_of_getElem? (i := 212) rfl) rfl
theorem gk_2_213 : Cond.instanceMethod ⟨"WakeLet", "learn", "(II)I"⟩ ∈ gw := gw_2 (List.mem_of_getElem? (i := 213) rfl) rfl
theorem gk_2_214 : Cond.selects "WakeLet" ⟨"WakeLet", "learn", "(II)I"⟩ ⟨"WakeLet", "learn", "(II)I"⟩ ∈ gw := gw_2 (List.mem_of_getElem? (i := 214) rfl) rfl
theorem gk_2_215 : Cond.code ⟨"WakeLet", "learn", "(II)I"⟩ prog_1_method_12_code 4 (some FieldType.int) ∈ gw := gw_2 (List.mem_of_getElem? (i := 215) rfl) rfl
theorem gk_2_216 : Cond.methodLink "WakeLetLaw" 62 ⟨"WakeLet", "undo", "()I"⟩ ∈ gw := gw_2 (List.mem_of_getElem? (i := 216) rfl) rfl
theorem gk_2_217 : Cond.instanceMethod ⟨"WakeLet", "undo", "()I"⟩ ∈ gw := gw_2 (List.mem_of_getElem? (i := 217) rfl) rfl
theorem gk_2_218 : Cond.selects "WakeLet" ⟨"WakeLet", "undo", "()I"⟩ ⟨"WakeLet", "undo", "()I"⟩ ∈ gw := gw_2 (List.mem_of_getElem? (i := 218) rfl) rfl
theorem gk_2_219 : Cond.code ⟨"WakeLet", "undo", "()I"⟩ prog_1_method_13_code 1 (some FieldType.int) ∈ gw := gw_2 (List.mem_of_getElem? (i := 219) rfl) rfl
theorem gk_2_220 : Cond.methodLink "WakeLet" 170 ⟨"WakeLet$Acts", "takeBack", "(LWakeLet$Agency;)Z"⟩ ∈ gw := gw_2 (List.mem_of_getElem? (i := 220) rfl) rfl
theorem gk_2_221 : Cond.instanceMethod ⟨"WakeLet$Acts", "takeBack", "(LWakeLet$Agency;)Z"⟩ ∈ gw := gw_2 (List.mem_of_getElem? (i := 221) rfl) rfl
theorem gk_2_222 : Cond.selects "WakeLet$Acts" ⟨"WakeLet$Acts", "takeBack", "(LWakeLet$Agency;)Z"⟩ ⟨"WakeLet$Acts", "takeBack", "(LWakeLet$Agency;)Z"⟩ ∈ gw := gw_2 (List.mem_of_getElem? (i := 222) rfl) rfl
theorem gk_2_223 : Cond.code ⟨"WakeLet$Acts", "takeBack", "(LWakeLet$Agency;)Z"⟩ prog_2_method_4_code 3 (some FieldType.boolean) ∈ gw := gw_2 (List.mem_of_getElem? (i := 223) rfl) rfl
theorem gk_2_224 : Cond.methodLink "WakeLetLaw" 66 ⟨"WakeLet", "client", "(II)I"⟩ ∈ gw := gw_2 (List.mem_of_getElem? (i := 224) rfl) rfl
theorem gk_2_225 : Cond.instanceMethod ⟨"WakeLet", "client", "(II)I"⟩ ∈ gw := gw_2 (List.mem_of_getElem? (i := 225) rfl) rfl
theorem gk_2_226 : Cond.selects "WakeLet" ⟨"WakeLet", "client", "(II)I"⟩ ⟨"WakeLet", "client", "(II)I"⟩ ∈ gw := gw_2 (List.mem_of_getElem? (i := 226) rfl) rfl
theorem gk_2_227 : Cond.code ⟨"WakeLet", "client", "(II)I"⟩ prog_1_method_14_code 3 (some FieldType.int) ∈ gw := gw_2 (List.mem_of_getElem? (i := 227) rfl) rfl
theorem gk_2_228 : Cond.methodLink "WakeLet" 180 ⟨"WakeLet$Agency", "hiredBy", "(I)I"⟩ ∈ gw := gw_2 (List.mem_of_getElem? (i := 228) rfl) rfl
theorem gk_2_229 : Cond.methodLink "WakeLet" 183 ⟨"WakeLet$Agency", "lighterBy", "(II)I"⟩ ∈ gw := gw_2 (List.mem_of_getElem? (i := 229) rfl) rfl
theorem gk_2_230 : Cond.methodLink "WakeLetLaw" 70 ⟨"WakeLet", "waker", "(II)I"⟩ ∈ gw := gw_2 (List.mem_of_getElem? (i := 230) rfl) rfl
theorem gk_2_231 : Cond.instanceMethod ⟨"WakeLet", "waker", "(II)I"⟩ ∈ gw := gw_2 (List.mem_of_getElem? (i := 231) rfl) rfl
theorem gk_2_232 : Cond.selects "WakeLet" ⟨"WakeLet", "waker", "(II)I"⟩ ⟨"WakeLet", "waker", "(II)I"⟩ ∈ gw := gw_2 (List.mem_of_getElem? (i := 232) rfl) rfl
theorem gk_2_233 : Cond.code ⟨"WakeLet", "waker", "(II)I"⟩ prog_1_method_15_code 3 (some FieldType.int) ∈ gw := gw_2 (List.mem_of_getElem? (i := 233) rfl) rfl
theorem gk_2_234 : Cond.methodLink "WakeLet" 189 ⟨"WakeLet$Agency", "lying", "(III)I"⟩ ∈ gw := gw_2 (List.mem_of_getElem? (i := 234) rfl) rfl
theorem gk_2_235 : Cond.methodLink "WakeLetLaw" 74 ⟨"WakeLet", "weight", "(II)I"⟩ ∈ gw := gw_2 (List.mem_of_getElem? (i := 235) rfl) rfl
theorem gk_2_236 : Cond.instanceMethod ⟨"WakeLet", "weight", "(II)I"⟩ ∈ gw := gw_2 (List.mem_of_getElem? (i := 236) rfl) rfl
theorem gk_2_237 : Cond.selects "WakeLet" ⟨"WakeLet", "weight", "(II)I"⟩ ⟨"WakeLet", "weight", "(II)I"⟩ ∈ gw := gw_2 (List.mem_of_getElem? (i := 237) rfl) rfl
theorem gk_2_238 : Cond.code ⟨"WakeLet", "weight", "(II)I"⟩ prog_1_method_16_code 3 (some FieldType.int) ∈ gw := gw_2 (List.mem_of_getElem? (i := 238) rfl) rfl
theorem gk_2_239 : Cond.methodLink "WakeLet" 196 ⟨"WakeLet", "foretell", "(I)V"⟩ ∈ gw := gw_2 (List.mem_of_getElem? (i := 239) rfl) rfl
theorem gk_3_1 : Cond.instanceMethod ⟨"WakeLet", "foretell", "(I)V"⟩ ∈ gw := gw_3 (List.mem_of_getElem? (i := 1) rfl) rfl
theorem gk_3_2 : Cond.code ⟨"WakeLet", "foretell", "(I)V"⟩ prog_1_method_39_code 3 none ∈ gw := gw_3 (List.mem_of_getElem? (i := 2) rfl) rfl
theorem gk_3_3 : Cond.methodLink "WakeLetLaw" 78 ⟨"WakeLet", "earned", "(II)I"⟩ ∈ gw := gw_3 (List.mem_of_getElem? (i := 3) rfl) rfl
theorem gk_3_4 : Cond.instanceMethod ⟨"WakeLet", "earned", "(II)I"⟩ ∈ gw := gw_3 (List.mem_of_getElem? (i := 4) rfl) rfl
theorem gk_3_5 : Cond.selects "WakeLet" ⟨"WakeLet", "earned", "(II)I"⟩ ⟨"WakeLet", "earned", "(II)I"⟩ ∈ gw := gw_3 (List.mem_of_getElem? (i := 5) rfl) rfl
theorem gk_3_6 : Cond.code ⟨"WakeLet", "earned", "(II)I"⟩ prog_1_method_17_code 3 (some FieldType.int) ∈ gw := gw_3 (List.mem_of_getElem? (i := 6) rfl) rfl
theorem gk_3_7 : Cond.methodLink "WakeLetLaw" 82 ⟨"WakeLet", "rests", "(I)I"⟩ ∈ gw := gw_3 (List.mem_of_getElem? (i := 7) rfl) rfl
theorem gk_3_8 : Cond.instanceMethod ⟨"WakeLet", "rests", "(I)I"⟩ ∈ gw := gw_3 (List.mem_of_getElem? (i := 8) rfl) rfl
theorem gk_3_9 : Cond.selects "WakeLet" ⟨"WakeLet", "rests", "(I)I"⟩ ⟨"WakeLet", "rests", "(I)I"⟩ ∈ gw := gw_3 (List.mem_of_getElem? (i := 9) rfl) rfl
theorem gk_3_10 : Cond.code ⟨"WakeLet", "rests", "(I)I"⟩ prog_1_method_18_code 2 (some FieldType.int) ∈ gw := gw_3 (List.mem_of_getElem? (i := 10) rfl) rfl
theorem gk_3_11 : Cond.methodLink "WakeLetLaw" 86 ⟨"WakeLet", "when", "(I)I"⟩ ∈ gw := gw_3 (List.mem_of_getElem? (i := 11) rfl) rfl
theorem gk_3_12 : Cond.instanceMethod ⟨"WakeLet", "when", "(I)I"⟩ ∈ gw := gw_3 (List.mem_of_getElem? (i := 12) rfl) rfl
theorem gk_3_13 : Cond.selects "WakeLet" ⟨"WakeLet", "when", "(I)I"⟩ ⟨"WakeLet", "when", "(I)I"⟩ ∈ gw := gw_3 (List.mem_of_getElem? (i := 13) rfl) rfl
theorem gk_3_14 : Cond.code ⟨"WakeLet", "when", "(I)I"⟩ prog_1_method_19_code 2 (some FieldType.int) ∈ gw := gw_3 (List.mem_of_getElem? (i := 14) rfl) rfl
theorem gk_3_15 : Cond.methodLink "WakeLet" 199 ⟨"WakeLet", "firstRest", "(I)I"⟩ ∈ gw := gw_3 (List.mem_of_getElem? (i := 15) rfl) rfl
theorem gk_3_17 : Cond.instanceMethod ⟨"WakeLet", "firstRest", "(I)I"⟩ ∈ gw := gw_3 (List.mem_of_getElem? (i := 17) rfl) rfl
theorem gk_3_18 : Cond.code ⟨"WakeLet", "firstRest", "(I)I"⟩ prog_1_method_40_code 3 (some FieldType.int) ∈ gw := gw_3 (List.mem_of_getElem? (i := 18) rfl) rfl
theorem gk_3_19 : Cond.constant "WakeLet" 224 (-1000000) ∈ gw := gw_3 (List.mem_of_getElem? (i := 19) rfl) rfl
theorem gk_3_20 : Cond.methodLink "WakeLetLaw" 90 ⟨"WakeLet", "all", "(I)I"⟩ ∈ gw := gw_3 (List.mem_of_getElem? (i := 20) rfl) rfl
theorem gk_3_21 : Cond.instanceMethod ⟨"WakeLet", "all", "(I)I"⟩ ∈ gw := gw_3 (List.mem_of_getElem? (i := 21) rfl) rfl
theorem gk_3_22 : Cond.selects "WakeLet" ⟨"WakeLet", "all", "(I)I"⟩ ⟨"WakeLet", "all", "(I)I"⟩ ∈ gw := gw_3 (List.mem_of_getElem? (i := 22) rfl) rfl
theorem gk_3_23 : Cond.code ⟨"WakeLet", "all", "(I)I"⟩ prog_1_method_20_code 2 (some FieldType.int) ∈ gw := gw_3 (List.mem_of_getElem? (i := 23) rfl) rfl
theorem gk_3_24 : Cond.methodLink "WakeLet" 202 ⟨"WakeLet$Agency", "hasAll", "(I)Z"⟩ ∈ gw := gw_3 (List.mem_of_getElem? (i := 24) rfl) rfl
theorem gk_3_25 : Cond.instanceMethod ⟨"WakeLet$Agency", "hasAll", "(I)Z"⟩ ∈ gw := gw_3 (List.mem_of_getElem? (i := 25) rfl) rfl
theorem gk_3_26 : Cond.selects "WakeLet$Agency" ⟨"WakeLet$Agency", "hasAll", "(I)Z"⟩ ⟨"WakeLet$Agency", "hasAll", "(I)Z"⟩ ∈ gw := gw_3 (List.mem_of_getElem? (i := 26) rfl) rfl
theorem gk_3_27 : Cond.code ⟨"WakeLet$Agency", "hasAll", "(I)Z"⟩ prog_3_method_7_code 2 (some FieldType.boolean) ∈ gw := gw_3 (List.mem_of_getElem? (i := 27) rfl) rfl
theorem gk_3_28 : Cond.methodLink "WakeLetLaw" 94 ⟨"WakeLet", "never", "()I"⟩ ∈ gw := gw_3 (List.mem_of_getElem? (i := 28) rfl) rfl
theorem gk_3_29 : Cond.instanceMethod ⟨"WakeLet", "never", "()I"⟩ ∈ gw := gw_3 (List.mem_of_getElem? (i := 29) rfl) rfl
theorem gk_3_30 : Cond.selects "WakeLet" ⟨"WakeLet", "never", "()I"⟩ ⟨"WakeLet", "never", "()I"⟩ ∈ gw := gw_3 (List.mem_of_getElem? (i := 30) rfl) rfl
theorem gk_3_31 : Cond.code ⟨"WakeLet", "never", "()I"⟩ prog_1_method_21_code 3 (some FieldType.int) ∈ gw := gw_3 (List.mem_of_getElem? (i := 31) rfl) rfl
theorem gk_3_32 : Cond.methodLink "WakeLetLaw" 98 ⟨"WakeLet", "best", "(II)I"⟩ ∈ gw := gw_3 (List.mem_of_getElem? (i := 32) rfl) rfl
theorem gk_3_33 : Cond.instanceMethod ⟨"WakeLet", "best", "(II)I"⟩ ∈ gw := gw_3 (List.mem_of_getElem? (i := 33) rfl) rfl
theorem gk_3_34 : Cond.selects "WakeLet" ⟨"WakeLet", "best", "(II)I"⟩ ⟨"WakeLet", "best", "(II)I"⟩ ∈ gw := gw_3 (List.mem_of_getElem? (i := 34) rfl) rfl
theorem gk_3_35 : Cond.code ⟨"WakeLet", "best", "(II)I"⟩ prog_1_method_22_code 3 (some FieldType.int) ∈ gw := gw_3 (List.mem_of_getElem? (i := 35) rfl) rfl
theorem gk_3_36 : Cond.methodLink "WakeLet" 205 ⟨"WakeLet$Search", "findBest", "(LWakeLet$Agency;I)V"⟩ ∈ gw := gw_3 (List.mem_of_getElem? (i := 36) rfl) rfl
theorem gk_3_37 : Cond.instanceMethod ⟨"WakeLet$Search", "findBest", "(LWakeLet$Agency;I)V"⟩ ∈ gw := gw_3 (List.mem_of_getElem? (i := 37) rfl) rfl
theorem gk_3_38 : Cond.selects "WakeLet$Search" ⟨"WakeLet$Search", "findBest", "(LWakeLet$Agency;I)V"⟩ ⟨"WakeLet$Search", "findBest", "(LWakeLet$Agency;I)V"⟩ ∈ gw := gw_3 (List.mem_of_getElem? (i := 38) rfl) rfl
theorem gk_3_39 : Cond.code ⟨"WakeLet$Search", "findBest", "(LWakeLet$Agency;I)V"⟩ prog_6_method_2_code 9 none ∈ gw := gw_3 (List.mem_of_getElem? (i := 39) rfl) rfl
theorem gk_3_40 : Cond.methodLink "WakeLet$Search" 27 ⟨"WakeLet$Search", "foretellSets", "(LWakeLet$Agency;I)V"⟩ ∈ gw := gw_3 (List.mem_of_getElem? (i := 40) rfl) rfl
theorem gk_3_42 : Cond.instanceMethod ⟨"WakeLet$Search", "foretellSets", "(LWakeLet$Agency;I)V"⟩ ∈ gw := gw_3 (List.mem_of_getElem? (i := 42) rfl) rfl
theorem gk_3_43 : Cond.code ⟨"WakeLet$Search", "foretellSets", "(LWakeLet$Agency;I)V"⟩ prog_6_method_7_code 7 none ∈ gw := gw_3 (List.mem_of_getElem? (i := 43) rfl) rfl
theorem gk_3_44 : Cond.methodLink "WakeLet$Search" 81 ⟨"WakeLet$Search", "findTaken", "(LWakeLet$Agency;II)V"⟩ ∈ gw := gw_3 (List.mem_of_getElem? (i := 44) rfl) rfl
theorem gk_3_46 : Cond.instanceMethod ⟨"WakeLet$Search", "findTaken", "(LWakeLet$Agency;II)V"⟩ ∈ gw := gw_3 (List.mem_of_getElem? (i := 46) rfl) rfl
theorem gk_3_47 : Cond.code ⟨"WakeLet$Search", "findTaken", "(LWakeLet$Agency;II)V"⟩ prog_6_method_8_code 6 none ∈ gw := gw_3 (List.mem_of_getElem? (i := 47) rfl) rfl
theorem gk_3_48 : Cond.methodLink "WakeLet$Search" 89 ⟨"java/lang/Integer", "numberOfTrailingZeros", "(I)I"⟩ ∈ gw := gw_3 (List.mem_of_getElem? (i := 48) rfl) rfl
theorem gk_3_49 : Cond.static ⟨"java/lang/Integer", "numberOfTrailingZeros", "(I)I"⟩ ∈ gw := gw_3 (List.mem_of_getElem? (i := 49) rfl) rfl
theorem gk_3_50 : Cond.code ⟨"java/lang/Integer", "numberOfTrailingZeros", "(I)I"⟩ prog_10_method_48_code 2 (some FieldType.int) ∈ gw := gw_3 (List.mem_of_getElem? (i := 50) rfl) rfl
theorem gk_3_51 : Cond.constant "java/lang/Integer" 264 (65536) ∈ gw := gw_3 (List.mem_of_getElem? (i := 51) rfl) rfl
theorem gk_3_52 : Cond.methodLink "WakeLet$Search" 94 ⟨"WakeLet$Agency", "takenBy", "(III)I"⟩ ∈ gw := gw_3 (List.mem_of_getElem? (i := 52) rfl) rfl
theorem gk_3_53 : Cond.methodLink "WakeLet$Search" 98 ⟨"java/lang/Math", "max", "(II)I"⟩ ∈ gw := gw_3 (List.mem_of_getElem? (i := 53) rfl) rfl
theorem gk_3_54 : Cond.methodLink "WakeLet$Search" 85 ⟨"WakeLet$Agency", "nextWeight", "(II)I"⟩ ∈ gw := gw_3 (List.mem_of_getElem? (i := 54) rfl) rfl
theorem gk_3_55 : Cond.methodLink "WakeLet$Search" 35 ⟨"WakeLet$Search", "waysToLet", "(LWakeLet$Agency;)I"⟩ ∈ gw := gw_3 (List.mem_of_getElem? (i := 55) rfl) rfl
theorem gk_3_56 : Cond.static ⟨"WakeLet$Search", "waysToLet", "(LWakeLet$Agency;)I"⟩ ∈ gw := gw_3 (List.mem_of_getElem? (i := 56) rfl) rfl
theorem gk_3_57 : Cond.code ⟨"WakeLet$Search", "waysToLet", "(LWakeLet$Agency;)I"⟩ prog_6_method_9_code 3 (some FieldType.int) ∈ gw := gw_3 (List.mem_of_getElem? (i := 57) rfl) rfl
theorem gk_3_58 : Cond.methodLink "WakeLet$Search" 39 ⟨"WakeLet$Search", "tryWay", "(LWakeLet$Agency;I)I"⟩ ∈ gw := gw_3 (List.mem_of_getElem? (i := 58) rfl) rfl
theorem gk_3_60 : Cond.instanceMethod ⟨"WakeLet$Search", "tryWay", "(LWakeLet$Agency;I)I"⟩ ∈ gw := gw_3 (List.mem_of_getElem? (i := 60) rfl) rfl
theorem gk_3_61 : Cond.code ⟨"WakeLet$Search", "tryWay", "(LWakeLet$Agency;I)I"⟩ prog_6_method_10_code 8 (some FieldType.int) ∈ gw := gw_3 (List.mem_of_getElem? (i := 61) rfl) rfl
theorem gk_3_62 : Cond.methodLink "WakeLet$Search" 106 ⟨"WakeLet$Agency", "hasClient", "(I)Z"⟩ ∈ gw := gw_3 (List.mem_of_getElem? (i := 62) rfl) rfl
theorem gk_3_63 : Cond.methodLink "WakeLet$Search" 48 ⟨"WakeLet$Search", "weightBehind", "(I)I"⟩ ∈ gw := gw_3 (List.mem_of_getElem? (i := 63) rfl) rfl
theorem gk_3_65 : Cond.instanceMethod ⟨"WakeLet$Search", "weightBehind", "(I)I"⟩ ∈ gw := gw_3 (List.mem_of_getElem? (i := 65) rfl) rfl
theorem gk_3_66 : Cond.code ⟨"WakeLet$Search", "weightBehind", "(I)I"⟩ prog_6_method_5_code 2 (some FieldType.int) ∈ gw := gw_3 (List.mem_of_getElem? (i := 66) rfl) rfl
theorem gk_3_67 : Cond.methodLink "WakeLet$Search" 58 ⟨"WakeLet$Search", "choose", "()V"⟩ ∈ gw := gw_3 (List.mem_of_getElem? (i := 67) rfl) rfl
theorem gk_3_69 : Cond.instanceMethod ⟨"WakeLet$Search", "choose", "()V"⟩ ∈ gw := gw_3 (List.mem_of_getElem? (i := 69) rfl) rfl
theorem gk_3_70 : Cond.code ⟨"WakeLet$Search", "choose", "()V"⟩ prog_6_method_6_code 1 none ∈ gw := gw_3 (List.mem_of_getElem? (i := 70) rfl) rfl
theorem gk_3_71 : Cond.methodLink "WakeLet$Search" 69 ⟨"java/lang/System", "arraycopy", "(Ljava/lang/Object;ILjava/lang/Object;II)V"⟩ ∈ gw := gw_3 (List.mem_of_getElem? (i := 71) rfl) rfl
theorem gk_3_72 : Cond.methodLink "WakeLet" 214 ⟨"WakeLet", "hirerFound", "(I)I"⟩ ∈ gw := gw_3 (List.mem_of_getElem? (i := 72) rfl) rfl
theorem gk_3_74 : Cond.instanceMethod ⟨"WakeLet", "hirerFound", "(I)I"⟩ ∈ gw := gw_3 (List.mem_of_getElem? (i := 74) rfl) rfl
theorem gk_3_75 : Cond.code ⟨"WakeLet", "hirerFound", "(I)I"⟩ prog_1_method_41_code 2 (some FieldType.int) ∈ gw := gw_3 (List.mem_of_getElem? (i := 75) rfl) rfl
theorem gk_3_76 : Cond.methodLink "WakeLetLaw" 102 ⟨"WakeLet", "fewest", "(III)I"⟩ ∈ gw := gw_3 (List.mem_of_getElem? (i := 76) rfl) rfl
theorem gk_3_77 : Cond.instanceMethod ⟨"WakeLet", "fewest", "(III)I"⟩ ∈ gw := gw_3 (List.mem_of_getElem? (i := 77) rfl) rfl
theorem gk_3_78 : Cond.selects "WakeLet" ⟨"WakeLet", "fewest", "(III)I"⟩ ⟨"WakeLet", "fewest", "(III)I"⟩ ∈ gw := gw_3 (List.mem_of_getElem? (i := 78) rfl) rfl
theorem gk_3_79 : Cond.code ⟨"WakeLet", "fewest", "(III)I"⟩ prog_1_method_23_code 4 (some FieldType.int) ∈ gw := gw_3 (List.mem_of_getElem? (i := 79) rfl) rfl
theorem gk_3_80 : Cond.methodLink "WakeLet" 217 ⟨"WakeLet$Search", "findFewest", "(LWakeLet$Agency;II)V"⟩ ∈ gw := gw_3 (List.mem_of_getElem? (i := 80) rfl) rfl
theorem gk_3_81 : Cond.instanceMethod ⟨"WakeLet$Search", "findFewest", "(LWakeLet$Agency;II)V"⟩ ∈ gw := gw_3 (List.mem_of_getElem? (i := 81) rfl) rfl
theorem gk_3_82 : Cond.selects "WakeLet$Search" ⟨"WakeLet$Search", "findFewest", "(LWakeLet$Agency;II)V"⟩ ⟨"WakeLet$Search", "findFewest", "(LWakeLet$Agency;II)V"⟩ ∈ gw := gw_3 (List.mem_of_getElem? (i := 82) rfl) rfl
theorem gk_3_83 : Cond.code ⟨"WakeLet$Search", "findFewest", "(LWakeLet$Agency;II)V"⟩ prog_6_method_3_code 7 none ∈ gw := gw_3 (List.mem_of_getElem? (i := 83) rfl) rfl
theorem gk_3_84 : Cond.constant "WakeLet$Search" 61 (-1000000) ∈ gw := gw_3 (List.mem_of_getElem? (i := 84) rfl) rfl
theorem gk_3_85 : Cond.methodLink "WakeLet$Search" 65 ⟨"WakeLet$Search", "restAll", "(LWakeLet$Agency;I)Z"⟩ ∈ gw := gw_3 (List.mem_of_getElem? (i := 85) rfl) rfl
theorem gk_3_87 : Cond.instanceMethod ⟨"WakeLet$Search", "restAll", "(LWakeLet$Agency;I)Z"⟩ ∈ gw := gw_3 (List.mem_of_getElem? (i := 87) rfl) rfl
theorem gk_3_88 : Cond.code ⟨"WakeLet$Search", "restAll", "(LWakeLet$Agency;I)Z"⟩ prog_6_method_4_code 4 (some FieldType.boolean) ∈ gw := gw_3 (List.mem_of_getElem? (i := 88) rfl) rfl
theorem gk_3_89 : Cond.methodLink "WakeLetLaw" 106 ⟨"WakeLet", "fits", "(IIIII)I"⟩ ∈ gw := gw_3 (List.mem_of_getElem? (i := 89) rfl) rfl
theorem gk_3_90 : Cond.instanceMethod ⟨"WakeLet", "fits", "(IIIII)I"⟩ ∈ gw := gw_3 (List.mem_of_getElem? (i := 90) rfl) rfl
theorem gk_3_91 : Cond.selects "WakeLet" ⟨"WakeLet", "fits", "(IIIII)I"⟩ ⟨"WakeLet", "fits", "(IIIII)I"⟩ ∈ gw := gw_3 (List.mem_of_getElem? (i := 91) rfl) rfl
theorem gk_3_92 : Cond.code ⟨"WakeLet", "fits", "(IIIII)I"⟩ prog_1_method_24_code 9 (some FieldType.int) ∈ gw := gw_3 (List.mem_of_getElem? (i := 92) rfl) rfl
theorem gk_3_93 : Cond.methodLink "WakeLet" 225 ⟨"WakeLet", "isGuess", "(II)Z"⟩ ∈ gw := gw_3 (List.mem_of_getElem? (i := 93) rfl) rfl
theorem gk_3_95 : Cond.instanceMethod ⟨"WakeLet", "isGuess", "(II)Z"⟩ ∈ gw := gw_3 (List.mem_of_getElem? (i := 95) rfl) rfl
theorem gk_3_96 : Cond.code ⟨"WakeLet", "isGuess", "(II)Z"⟩ prog_1_method_42_code 3 (some FieldType.boolean) ∈ gw := gw_3 (List.mem_of_getElem? (i := 96) rfl) rfl
theorem gk_3_97 : Cond.methodLink "WakeLet" 228 ⟨"WakeLet", "wouldShow", "(IIILWakeLet$Row;II)Z"⟩ ∈ gw := gw_3 (List.mem_of_getElem? (i := 97) rfl) rfl
theorem gk_3_99 : Cond.instanceMethod ⟨"WakeLet", "wouldShow", "(IIILWakeLet$Row;II)Z"⟩ ∈ gw := gw_3 (List.mem_of_getElem? (i := 99) rfl) rfl
theorem gk_3_100 : Cond.code ⟨"WakeLet", "wouldShow", "(IIILWakeLet$Row;II)Z"⟩ prog_1_method_43_code 8 (some FieldType.boolean) ∈ gw := gw_3 (List.mem_of_getElem? (i := 100) rfl) rfl
theorem gk_3_101 : Cond.methodLink "WakeLetLaw" 110 ⟨"WakeLet", "nods", "(III)I"⟩ ∈ gw := gw_3 (List.mem_of_getElem? (i := 101) rfl) rfl
theorem gk_3_102 : Cond.instanceMethod ⟨"WakeLet", "nods", "(III)I"⟩ ∈ gw := gw_3 (List.mem_of_getElem? (i := 102) rfl) rfl
theorem gk_3_103 : Cond.selects "WakeLet" ⟨"WakeLet", "nods", "(III)I"⟩ ⟨"WakeLet", "nods", "(III)I"⟩ ∈ gw := gw_3 (List.mem_of_getElem? (i := 103) rfl) rfl
theorem gk_3_104 : Cond.code ⟨"WakeLet", "nods", "(III)I"⟩ prog_1_method_25_code 7 (some FieldType.int) ∈ gw := gw_3 (List.mem_of_getElem? (i := 104) rfl) rfl
theorem gk_3_105 : Cond.methodLink "WakeLet" 235 ⟨"java/lang/Integer", "bitCount", "(I)I"⟩ ∈ gw := gw_3 (List.mem_of_getElem? (i := 105) rfl) rfl
theorem gk_3_106 : Cond.static ⟨"java/lang/Integer", "bitCount", "(I)I"⟩ ∈ gw := gw_3 (List.mem_of_getElem? (i := 106) rfl) rfl
theorem gk_3_107 : Cond.code ⟨"java/lang/Integer", "bitCount", "(I)I"⟩ prog_10_method_49_code 1 (some FieldType.int) ∈ gw := gw_3 (List.mem_of_getElem? (i := 107) rfl) rfl
theorem gk_3_108 : Cond.constant "java/lang/Integer" 265 (1431655765) ∈ gw := gw_3 (List.mem_of_getElem? (i := 108) rfl) rfl
theorem gk_3_109 : Cond.constant "java/lang/Integer" 266 (858993459) ∈ gw := gw_3 (List.mem_of_getElem? (i := 109) rfl) rfl
theorem gk_3_110 : Cond.constant "java/lang/Integer" 267 (252645135) ∈ gw := gw_3 (List.mem_of_getElem? (i := 110) rfl) rfl
theorem gk_3_111 : Cond.methodLink "WakeLet" 240 ⟨"WakeLet", "waysToBe", "(II)I"⟩ ∈ gw := gw_3 (List.mem_of_getElem? (i := 111) rfl) rfl
theorem gk_3_113 : Cond.instanceMethod ⟨"WakeLet", "waysToBe", "(II)I"⟩ ∈ gw := gw_3 (List.mem_of_getElem? (i := 113) rfl) rfl
theorem gk_3_114 : Cond.code ⟨"WakeLet", "waysToBe", "(II)I"⟩ prog_1_method_44_code 5 (some FieldType.int) ∈ gw := gw_3 (List.mem_of_getElem? (i := 114) rfl) rfl
theorem gk_3_115 : Cond.methodLink "WakeLet" 243 ⟨"WakeLet", "commonDivisor", "(II)I"⟩ ∈ gw := gw_3 (List.mem_of_getElem? (i := 115) rfl) rfl
theorem gk_3_116 : Cond.static ⟨"WakeLet", "commonDivisor", "(II)I"⟩ ∈ gw := gw_3 (List.mem_of_getElem? (i := 116) rfl) rfl
theorem gk_3_117 : Cond.code ⟨"WakeLet", "commonDivisor", "(II)I"⟩ prog_1_method_45_code 6 (some FieldType.int) ∈ gw := gw_3 (List.mem_of_getElem? (i := 117) rfl) rfl
theorem gk_3_118 : Cond.methodLink "WakeLet" 246 ⟨"java/lang/Math", "max", "(II)I"⟩ ∈ gw := gw_3 (List.mem_of_getElem? (i := 118) rfl) rfl
theorem gk_3_119 : Cond.methodLink "WakeLetLaw" 114 ⟨"WakeLet", "drawn", "(III)I"⟩ ∈ gw := gw_3 (List.mem_of_getElem? (i := 119) rfl) rfl
theorem gk_3_120 : Cond.instanceMethod ⟨"WakeLet", "drawn", "(III)I"⟩ ∈ gw := gw_3 (List.mem_of_getElem? (i := 120) rfl) rfl
theorem gk_3_121 : Cond.selects "WakeLet" ⟨"WakeLet", "drawn", "(III)I"⟩ ⟨"WakeLet", "drawn", "(III)I"⟩ ∈ gw := gw_3 (List.mem_of_getElem? (i := 121) rfl) rfl
theorem gk_3_122 : Cond.code ⟨"WakeLet", "drawn", "(III)I"⟩ prog_1_method_26_code 8 (some FieldType.int) ∈ gw := gw_3 (List.mem_of_getElem? (i := 122) rfl) rfl
theorem gk_3_123 : Cond.constant "WakeLet" 251 (999999) ∈ gw := gw_3 (List.mem_of_getElem? (i := 123) rfl) rfl
theorem gk_3_124 : Cond.constantLong "WakeLet" 252 (16807) ∈ gw := gw_3 (List.mem_of_getElem? (i := 124) rfl) rfl
theorem gk_3_125 : Cond.constantLong "WakeLet" 254 (2147483647) ∈ gw := gw_3 (List.mem_of_getElem? (i := 125) rfl) rfl
theorem gk_3_126 : Cond.constantLong "WakeLet" 256 (5) ∈ gw := gw_3 (List.mem_of_getElem? (i := 126) rfl) rfl
theorem gk_3_127 : Cond.methodLink "WakeLet" 258 ⟨"WakeLet$Agency", "weightsTogether", "()I"⟩ ∈ gw := gw_3 (List.mem_of_getElem? (i := 127) rfl) rfl
theorem gk_3_128 : Cond.instanceMethod ⟨"WakeLet$Agency", "weightsTogether", "()I"⟩ ∈ gw := gw_3 (List.mem_of_getElem? (i := 128) rfl) rfl
theorem gk_3_129 : Cond.selects "WakeLet$Agency" ⟨"WakeLet$Agency", "weightsTogether", "()I"⟩ ⟨"WakeLet$Agency", "weightsTogether", "()I"⟩ ∈ gw := gw_3 (List.mem_of_getElem? (i := 129) rfl) rfl
theorem gk_3_130 : Cond.code ⟨"WakeLet$Agency", "weightsTogether", "()I"⟩ prog_3_method_17_code 3 (some FieldType.int) ∈ gw := gw_3 (List.mem_of_getElem? (i := 130) rfl) rfl
theorem gk_3_131 : Cond.methodLink "WakeLetLaw" 118 ⟨"WakeLet", "image", "(I)I"⟩ ∈ gw := gw_3 (List.mem_of_getElem? (i := 131) rfl) rfl
theorem gk_3_132 : Cond.instanceMethod ⟨"WakeLet", "image", "(I)I"⟩ ∈ gw := gw_3 (List.mem_of_getElem? (i := 132) rfl) rfl
theorem gk_3_133 : Cond.selects "WakeLet" ⟨"WakeLet", "image", "(I)I"⟩ ⟨"WakeLet", "image", "(I)I"⟩ ∈ gw := gw_3 (List.mem_of_getElem? (i := 133) rfl) rfl
theorem gk_3_134 : Cond.code ⟨"WakeLet", "image", "(I)I"⟩ prog_1_method_27_code 2 (some FieldType.int) ∈ gw := gw_3 (List.mem_of_getElem? (i := 134) rfl) rfl
theorem gk_3_135 : Cond.methodLink "WakeLetLaw" 122 ⟨"WakeLet", "restore", "(I)I"⟩ ∈ gw := gw_3 (List.mem_of_getElem? (i := 135) rfl) rfl
theorem gk_3_136 : Cond.instanceMethod ⟨"WakeLet", "restore", "(I)I"⟩ ∈ gw := gw_3 (List.mem_of_getElem? (i := 136) rfl) rfl
theorem gk_3_137 : Cond.selects "WakeLet" ⟨"WakeLet", "restore", "(I)I"⟩ ⟨"WakeLet", "restore", "(I)I"⟩ ∈ gw := gw_3 (List.mem_of_getElem? (i := 137) rfl) rfl
theorem gk_3_138 : Cond.code ⟨"WakeLet", "restore", "(I)I"⟩ prog_1_method_28_code 2 (some FieldType.int) ∈ gw := gw_3 (List.mem_of_getElem? (i := 138) rfl) rfl
theorem gk_3_139 : Cond.methodLink "WakeLetLaw" 126 ⟨"WakeLet", "kind", "(I)I"⟩ ∈ gw := gw_3 (List.mem_of_getElem? (i := 139) rfl) rfl
theorem gk_3_140 : Cond.instanceMethod ⟨"WakeLet", "kind", "(I)I"⟩ ∈ gw := gw_3 (List.mem_of_getElem? (i := 140) rfl) rfl
theorem gk_3_141 : Cond.selects "WakeLet" ⟨"WakeLet", "kind", "(I)I"⟩ ⟨"WakeLet", "kind", "(I)I"⟩ ∈ gw := gw_3 (List.mem_of_getElem? (i := 141) rfl) rfl
theorem gk_3_142 : Cond.code ⟨"WakeLet", "kind", "(I)I"⟩ prog_1_method_29_code 2 (some FieldType.int) ∈ gw := gw_3 (List.mem_of_getElem? (i := 142) rfl) rfl
theorem gk_3_143 : Cond.methodLink "WakeLetLaw" 130 ⟨"WakeLet", "as", "(II)I"⟩ ∈ gw := gw_3 (List.mem_of_getElem? (i := 143) rfl) rfl
theorem gk_3_144 : Cond.instanceMethod ⟨"WakeLet", "as", "(II)I"⟩ ∈ gw := gw_3 (List.mem_of_getElem? (i := 144) rfl) rfl
theorem gk_3_145 : Cond.selects "WakeLet" ⟨"WakeLet", "as", "(II)I"⟩ ⟨"WakeLet", "as", "(II)I"⟩ ∈ gw := gw_3 (List.mem_of_getElem? (i := 145) rfl) rfl
theorem gk_3_146 : Cond.code ⟨"WakeLet", "as", "(II)I"⟩ prog_1_method_30_code 3 (some FieldType.int) ∈ gw := gw_3 (List.mem_of_getElem? (i := 146) rfl) rfl
theorem gk_3_147 : Cond.methodLink "WakeLet" 264 ⟨"WakeLet$Asks", "isOfKind", "(II)Z"⟩ ∈ gw := gw_3 (List.mem_of_getElem? (i := 147) rfl) rfl
theorem gk_3_148 : Cond.static ⟨"WakeLet$Asks", "isOfKind", "(II)Z"⟩ ∈ gw := gw_3 (List.mem_of_getElem? (i := 148) rfl) rfl
theorem gk_3_149 : Cond.code ⟨"WakeLet$Asks", "isOfKind", "(II)Z"⟩ prog_4_method_3_code 4 (some FieldType.boolean) ∈ gw := gw_3 (List.mem_of_getElem? (i := 149) rfl) rfl
theorem gk_3_150 : Cond.methodLink "WakeLet$Asks" 23 ⟨"WakeLet$Asks", "parentOf", "(I)I"⟩ ∈ gw := gw_3 (List.mem_of_getElem? (i := 150) rfl) rfl
theorem gk_3_151 : Cond.static ⟨"WakeLet$Asks", "parentOf", "(I)I"⟩ ∈ gw := gw_3 (List.mem_of_getElem? (i := 151) rfl) rfl
theorem gk_3_152 : Cond.code ⟨"WakeLet$Asks", "parentOf", "(I)I"⟩ prog_4_method_4_code 1 (some FieldType.int) ∈ gw := gw_3 (List.mem_of_getElem? (i := 152) rfl) rfl
theorem gk_3_153 : Cond.fieldLink "WakeLet$Asks" 27 "WakeLet$Asks" "PARENTS" "[I" ∈ gw := gw_3 (List.mem_of_getElem? (i := 153) rfl) rfl
theorem gk_3_155 : Cond.methodLink "WakeLetLaw" 134 ⟨"WakeLet", "ask", "(II)I"⟩ ∈ gw := gw_3 (List.mem_of_getElem? (i := 155) rfl) rfl
theorem gk_3_156 : Cond.instanceMethod ⟨"WakeLet", "ask", "(II)I"⟩ ∈ gw := gw_3 (List.mem_of_getElem? (i := 156) rfl) rfl
theorem gk_3_157 : Cond.selects "WakeLet" ⟨"WakeLet", "ask", "(II)I"⟩ ⟨"WakeLet", "ask", "(II)I"⟩ ∈ gw := gw_3 (List.mem_of_getElem? (i := 157) rfl) rfl
theorem gk_3_158 : Cond.code ⟨"WakeLet", "ask", "(II)I"⟩ prog_1_method_31_code 3 (some FieldType.int) ∈ gw := gw_3 (List.mem_of_getElem? (i := 158) rfl) rfl
theorem gk_3_159 : Cond.methodLink "WakeLet" 267 ⟨"WakeLet$Asks", "begin", "(LWakeLet$Agency;II)I"⟩ ∈ gw := gw_3 (List.mem_of_getElem? (i := 159) rfl) rfl
theorem gk_3_160 : Cond.instanceMethod ⟨"WakeLet$Asks", "begin", "(LWakeLet$Agency;II)I"⟩ ∈ gw := gw_3 (List.mem_of_getElem? (i := 160) rfl) rfl
theorem gk_3_161 : Cond.selects "WakeLet$Asks" ⟨"WakeLet$Asks", "begin", "(LWakeLet$Agency;II)I"⟩ ⟨"WakeLet$Asks", "begin", "(LWakeLet$Agency;II)I"⟩ ∈ gw := gw_3 (List.mem_of_getElem? (i := 161) rfl) rfl
theorem gk_3_162 : Cond.code ⟨"WakeLet$Asks", "begin", "(LWakeLet$Agency;II)I"⟩ prog_4_method_2_code 4 (some FieldType.int) ∈ gw := gw_3 (List.mem_of_getElem? (i := 162) rfl) rfl
theorem gk_3_163 : Cond.methodLink "WakeLet$Asks" 19 ⟨"WakeLet$Asks", "askAnew", "(LWakeLet$Agency;III)I"⟩ ∈ gw := gw_3 (List.mem_of_getElem? (i := 163) rfl) rfl
theorem gk_3_165 : Cond.instanceMethod ⟨"WakeLet$Asks", "askAnew", "(LWakeLet$Agency;III)I"⟩ ∈ gw := gw_3 (List.mem_of_getElem? (i := 165) rfl) rfl
theorem gk_3_166 : Cond.code ⟨"WakeLet$Asks", "askAnew", "(LWakeLet$Agency;III)I"⟩ prog_4_method_5_code 5 (some FieldType.int) ∈ gw := gw_3 (List.mem_of_getElem? (i := 166) rfl) rfl
theorem gk_3_167 : Cond.methodLink "WakeLet$Asks" 30 ⟨"WakeLet$Agency", "hasWaker", "(I)Z"⟩ ∈ gw := gw_3 (List.mem_of_getElem? (i := 167) rfl) rfl
theorem gk_3_168 : Cond.methodLink "WakeLet$Asks" 39 ⟨"WakeLet$Asks", "bodyFor", "(II)I"⟩ ∈ gw := gw_3 (List.mem_of_getElem? (i := 168) rfl) rfl
theorem gk_3_169 : Cond.static ⟨"WakeLet$Asks", "bodyFor", "(II)I"⟩ ∈ gw := gw_3 (List.mem_of_getElem? (i := 169) rfl) rfl
theorem gk_3_170 : Cond.code ⟨"WakeLet$Asks", "bodyFor", "(II)I"⟩ prog_4_method_6_code 4 (some FieldType.int) ∈ gw := gw_3 (List.mem_of_getElem? (i := 170) rfl) rfl
theorem gk_3_171 : Cond.methodLink "WakeLet$Asks" 46 ⟨"WakeLet$Asks", "ownBody", "(II)I"⟩ ∈ gw := gw_3 (List.mem_of_getElem? (i := 171) rfl) rfl
theorem gk_3_172 : Cond.static ⟨"WakeLet$Asks", "ownBody", "(II)I"⟩ ∈ gw := gw_3 (List.mem_of_getElem? (i := 172) rfl) rfl
theorem gk_3_173 : Cond.code ⟨"WakeLet$Asks", "ownBody", "(II)I"⟩ prog_4_method_7_code 3 (some FieldType.int) ∈ gw := gw_3 (List.mem_of_getElem? (i := 173) rfl) rfl
theorem gk_3_174 : Cond.fieldLink "WakeLet$Asks" 49 "WakeLet$Asks" "SIZE_BODIES" "[I" ∈ gw := gw_3 (List.mem_of_getElem? (i := 174) rfl) rfl
theorem gk_3_176 : Cond.fieldLink "WakeLet$Asks" 52 "WakeLet$Asks" "MARK_BODIES" "[I" ∈ gw := gw_3 (List.mem_of_getElem? (i := 176) rfl) rfl
theorem gk_3_178 : Cond.methodLink "WakeLet$Asks" 43 ⟨"WakeLet$Asks", "runBody", "(LWakeLet$Agency;III)I"⟩ ∈ gw := gw_3 (List.mem_of_getElem? (i := 178) rfl) rfl
theorem gk_3_180 : Cond.instanceMethod ⟨"WakeLet$Asks", "runBody", "(LWakeLet$Agency;III)I"⟩ ∈ gw := gw_3 (List.mem_of_getElem? (i := 180) rfl) rfl
theorem gk_3_181 : Cond.code ⟨"WakeLet$Asks", "runBody", "(LWakeLet$Agency;III)I"⟩ prog_4_method_8_code 6 (some FieldType.int) ∈ gw := gw_3 (List.mem_of_getElem? (i := 181) rfl) rfl
theorem gk_3_182 : Cond.methodLink "WakeLet$Asks" 55 ⟨"WakeLet$Asks", "leave", "(I)V"⟩ ∈ gw := gw_3 (List.mem_of_getElem? (i := 182) rfl) rfl
theorem gk_3_184 : Cond.instanceMethod ⟨"WakeLet$Asks", "leave", "(I)V"⟩ ∈ gw := gw_3 (List.mem_of_getElem? (i := 184) rfl) rfl
theorem gk_3_185 : Cond.code ⟨"WakeLet$Asks", "leave", "(I)V"⟩ prog_4_method_9_code 2 none ∈ gw := gw_3 (List.mem_of_getElem? (i := 185) rfl) rfl
theorem gk_3_186 : Cond.methodLink "WakeLetLaw" 138 ⟨"WakeLet", "trace", "(I)I"⟩ ∈ gw := gw_3 (List.mem_of_getElem? (i := 186) rfl) rfl
theorem gk_3_187 : Cond.instanceMethod ⟨"WakeLet", "trace", "(I)I"⟩ ∈ gw := gw_3 (List.mem_of_getElem? (i := 187) rfl) rfl
theorem gk_3_188 : Cond.selects "WakeLet" ⟨"WakeLet", "trace", "(I)I"⟩ ⟨"WakeLet", "trace", "(I)I"⟩ ∈ gw := gw_3 (List.mem_of_getElem? (i := 188) rfl) rfl
theorem gk_3_189 : Cond.code ⟨"WakeLet", "trace", "(I)I"⟩ prog_1_method_32_code 2 (some FieldType.int) ∈ gw := gw_3 (List.mem_of_getElem? (i := 189) rfl) rfl
theorem gk_3_190 : Cond.methodLink "WakeLetLaw" 142 ⟨"WakeLet", "count", "(I)I"⟩ ∈ gw := gw_3 (List.mem_of_getElem? (i := 190) rfl) rfl
theorem gk_3_191 : Cond.instanceMethod ⟨"WakeLet", "count", "(I)I"⟩ ∈ gw := gw_3 (List.mem_of_getElem? (i := 191) rfl) rfl
theorem gk_3_192 : Cond.selects "WakeLet" ⟨"WakeLet", "count", "(I)I"⟩ ⟨"WakeLet", "count", "(I)I"⟩ ∈ gw := gw_3 (List.mem_of_getElem? (i := 192) rfl) rfl
theorem gk_3_193 : Cond.code ⟨"WakeLet", "count", "(I)I"⟩ prog_1_method_33_code 2 (some FieldType.int) ∈ gw := gw_3 (List.mem_of_getElem? (i := 193) rfl) rfl
theorem gk_3_194 : Cond.methodLink "WakeLet" 277 ⟨"WakeLet", "rowsThere", "()I"⟩ ∈ gw := gw_3 (List.mem_of_getElem? (i := 194) rfl) rfl
theorem gk_3_196 : Cond.instanceMethod ⟨"WakeLet", "rowsThere", "()I"⟩ ∈ gw := gw_3 (List.mem_of_getElem? (i := 196) rfl) rfl
theorem gk_3_197 : Cond.code ⟨"WakeLet", "rowsThere", "()I"⟩ prog_1_method_38_code 3 (some FieldType.int) ∈ gw := gw_3 (List.mem_of_getElem? (i := 197) rfl) rfl
theorem gk_3_198 : Cond.methodLink "WakeLet" 280 ⟨"WakeLet$Agency", "wagesTogether", "()I"⟩ ∈ gw := gw_3 (List.mem_of_getElem? (i := 198) rfl) rfl
theorem gk_3_199 : Cond.instanceMethod ⟨"WakeLet$Agency", "wagesTogether", "()I"⟩ ∈ gw := gw_3 (List.mem_of_getElem? (i := 199) rfl) rfl
theorem gk_3_200 : Cond.selects "WakeLet$Agency" ⟨"WakeLet$Agency", "wagesTogether", "()I"⟩ ⟨"WakeLet$Agency", "wagesTogether", "()I"⟩ ∈ gw := gw_3 (List.mem_of_getElem? (i := 200) rfl) rfl
theorem gk_3_201 : Cond.code ⟨"WakeLet$Agency", "wagesTogether", "()I"⟩ prog_3_method_18_code 3 (some FieldType.int) ∈ gw := gw_3 (List.mem_of_getElem? (i := 201) rfl) rfl
theorem gk_3_202 : Cond.methodLink "WakeLetLaw" 146 ⟨"WakeLet", "status", "()I"⟩ ∈ gw := gw_3 (List.mem_of_getElem? (i := 202) rfl) rfl
theorem gk_3_203 : Cond.instanceMethod ⟨"WakeLet", "status", "()I"⟩ ∈ gw := gw_3 (List.mem_of_getElem? (i := 203) rfl) rfl
theorem gk_3_204 : Cond.selects "WakeLet" ⟨"WakeLet", "status", "()I"⟩ ⟨"WakeLet", "status", "()I"⟩ ∈ gw := gw_3 (List.mem_of_getElem? (i := 204) rfl) rfl
theorem gk_3_205 : Cond.code ⟨"WakeLet", "status", "()I"⟩ prog_1_method_34_code 1 (some FieldType.int) ∈ gw := gw_3 (List.mem_of_getElem? (i := 205) rfl) rfl
theorem gk_3_206 : Cond.classLink "WakeLetLaw" 10 "WakeLetModel" ∈ gw := gw_3 (List.mem_of_getElem? (i := 206) rfl) rfl
theorem gk_3_207 : Cond.instantiable "WakeLetModel" 17 ∈ gw := gw_3 (List.mem_of_getElem? (i := 207) rfl) rfl
theorem gk_3_208 : Cond.methodLink "WakeLetLaw" 12 ⟨"WakeLetModel", "<init>", "()V"⟩ ∈ gw := gw_3 (List.mem_of_getElem? (i := 208) rfl) rfl
theorem gk_3_209 : Cond.instanceMethod ⟨"WakeLetModel", "<init>", "()V"⟩ ∈ gw := gw_3 (List.mem_of_getElem? (i := 209) rfl) rfl
theorem gk_3_210 : Cond.code ⟨"WakeLetModel", "<init>", "()V"⟩ prog_9_method_1_code 2 none ∈ gw := gw_3 (List.mem_of_getElem? (i := 210) rfl) rfl
theorem gk_3_211 : Cond.methodLink "WakeLetModel" 1 ⟨"java/lang/Object", "<init>", "()V"⟩ ∈ gw := gw_3 (List.mem_of_getElem? (i := 211) rfl) rfl
theorem gk_3_212 : Cond.fieldLink "WakeLetModel" 7 "WakeLetModel" "w" "[I" ∈ gw := gw_3 (List.mem_of_getElem? (i := 212) rfl) rfl
theorem gk_3_213 : Cond.fieldLink "WakeLetModel" 13 "WakeLetModel" "isKept" "[Z" ∈ gw := gw_3 (List.mem_of_getElem? (i := 213) rfl) rfl
theorem gk_3_214 : Cond.fieldLink "WakeLetModel" 17 "WakeLetModel" "acts" "[I" ∈ gw := gw_3 (List.mem_of_getElem? (i := 214) rfl) rfl
theorem gk_3_215 : Cond.fieldLink "WakeLetModel" 123 "WakeLetModel" "acted" "I" ∈ gw := gw_3 (List.mem_of_getElem? (i := 215) rfl) rfl
theorem gk_3_216 : Cond.fieldLink "WakeLetModel" 20 "WakeLetModel" "rows" "[I" ∈ gw := gw_3 (List.mem_of_getElem? (i := 216) rfl) rfl
theorem gk_3_217 : Cond.fieldLink "WakeLetModel" 23 "WakeLetModel" "rowSize" "[I" ∈ gw := gw_3 (List.mem_of_getElem? (i := 217) rfl) rfl
theorem gk_3_218 : Cond.fieldLink "WakeLetModel" 26 "WakeLetModel" "rowLane" "[I" ∈ gw := gw_3 (List.mem_of_getElem? (i := 218) rfl) rfl
theorem gk_3_219 : Cond.fieldLink "WakeLetModel" 38 "WakeLetModel" "status" "I" ∈ gw := gw_3 (List.mem_of_getElem? (i := 219) rfl) rfl
theorem gk_3_220 : Cond.fieldLink "WakeLetModel" 29 "WakeLetModel" "tape" "[I" ∈ gw := gw_3 (List.mem_of_getElem? (i := 220) rfl) rfl
theorem gk_3_221 : Cond.fieldLink "WakeLetModel" 69 "WakeLetModel" "taped" "I" ∈ gw := gw_3 (List.mem_of_getElem? (i := 221) rfl) rfl
theorem gk_3_222 : Cond.fieldLink "WakeLetModel" 73 "WakeLetModel" "faulty" "I" ∈ gw := gw_3 (List.mem_of_getElem? (i := 222) rfl) rfl
theorem gk_3_223 : Cond.fieldLink "WakeLetModel" 32 "WakeLetModel" "trace" "[I" ∈ gw := gw_3 (List.mem_of_getElem? (i := 223) rfl) rfl
theorem gk_3_224 : Cond.fieldLink "WakeLetModel" 225 "WakeLetModel" "traced" "I" ∈ gw := gw_3 (List.mem_of_getElem? (i := 224) rfl) rfl
theorem gk_3_225 : Cond.fieldLink "WakeLetModel" 35 "WakeLetModel" "held" "[I" ∈ gw := gw_3 (List.mem_of_getElem? (i := 225) rfl) rfl
theorem gk_3_226 : Cond.fieldLink "WakeLetModel" 79 "WakeLetModel" "at" "I" ∈ gw := gw_3 (List.mem_of_getElem? (i := 226) rfl) rfl
theorem gk_3_227 : Cond.fieldLink "WakeLetModel" 89 "WakeLetModel" "number" "I" ∈ gw := gw_3 (List.mem_of_getElem? (i := 227) rfl) rfl
theorem gk_3_228 : Cond.fieldLink "WakeLetModel" 76 "WakeLetModel" "faultAt" "I" ∈ gw := gw_3 (List.mem_of_getElem? (i := 228) rfl) rfl
theorem gk_3_229 : Cond.laysFinal "WakeLetModel" "WakeLetModel" "w" "[I" ∈ gw := gw_3 (List.mem_of_getElem? (i := 229) rfl) rfl
theorem gk_3_231 : Cond.laysFinal "WakeLetModel" "WakeLetModel" "isKept" "[Z" ∈ gw := gw_3 (List.mem_of_getElem? (i := 231) rfl) rfl
theorem gk_3_233 : Cond.laysFinal "WakeLetModel" "WakeLetModel" "acts" "[I" ∈ gw := gw_3 (List.mem_of_getElem? (i := 233) rfl) rfl
theorem gk_3_235 : Cond.lays "WakeLetModel" "WakeLetModel" "acted" "I" ∈ gw := gw_3 (List.mem_of_getElem? (i := 235) rfl) rfl
theorem gk_3_237 : Cond.laysFinal "WakeLetModel" "WakeLetModel" "rows" "[I" ∈ gw := gw_3 (List.mem_of_getElem? (i := 237) rfl) rfl
theorem gk_3_239 : Cond.laysFinal "WakeLetModel" "WakeLetModel" "rowSize" "[I" ∈ gw := gw_3 (List.mem_of_getElem? (i := 239) rfl) rfl
theorem gk_4_1 : Cond.laysFinal "WakeLetModel" "WakeLetModel" "rowLane" "[I" ∈ gw := gw_4 (List.mem_of_getElem? (i := 1) rfl) rfl
theorem gk_4_3 : Cond.lays "WakeLetModel" "WakeLetModel" "status" "I" ∈ gw := gw_4 (List.mem_of_getElem? (i := 3) rfl) rfl
theorem gk_4_5 : Cond.laysFinal "WakeLetModel" "WakeLetModel" "tape" "[I" ∈ gw := gw_4 (List.mem_of_getElem? (i := 5) rfl) rfl
theorem gk_4_7 : Cond.lays "WakeLetModel" "WakeLetModel" "taped" "I" ∈ gw := gw_4 (List.mem_of_getElem? (i := 7) rfl) rfl
theorem gk_4_9 : Cond.lays "WakeLetModel" "WakeLetModel" "faulty" "I" ∈ gw := gw_4 (List.mem_of_getElem? (i := 9) rfl) rfl
theorem gk_4_11 : Cond.laysFinal "WakeLetModel" "WakeLetModel" "trace" "[I" ∈ gw := gw_4 (List.mem_of_getElem? (i := 11) rfl) rfl
theorem gk_4_13 : Cond.lays "WakeLetModel" "WakeLetModel" "traced" "I" ∈ gw := gw_4 (List.mem_of_getElem? (i := 13) rfl) rfl
theorem gk_4_15 : Cond.laysFinal "WakeLetModel" "WakeLetModel" "held" "[I" ∈ gw := gw_4 (List.mem_of_getElem? (i := 15) rfl) rfl
theorem gk_4_17 : Cond.lays "WakeLetModel" "WakeLetModel" "at" "I" ∈ gw := gw_4 (List.mem_of_getElem? (i := 17) rfl) rfl
theorem gk_4_19 : Cond.lays "WakeLetModel" "WakeLetModel" "number" "I" ∈ gw := gw_4 (List.mem_of_getElem? (i := 19) rfl) rfl
theorem gk_4_21 : Cond.lays "WakeLetModel" "WakeLetModel" "faultAt" "I" ∈ gw := gw_4 (List.mem_of_getElem? (i := 21) rfl) rfl
theorem gk_4_24 : Cond.arrayClass .boolean ∈ gw := gw_4 (List.mem_of_getElem? (i := 24) rfl) rfl
theorem gk_4_25 : Cond.methodLink "WakeLetLaw" 17 ⟨"WakeLetModel", "row", "(III)I"⟩ ∈ gw := gw_4 (List.mem_of_getElem? (i := 25) rfl) rfl
theorem gk_4_26 : Cond.instanceMethod ⟨"WakeLetModel", "row", "(III)I"⟩ ∈ gw := gw_4 (List.mem_of_getElem? (i := 26) rfl) rfl
theorem gk_4_27 : Cond.selects "WakeLetModel" ⟨"WakeLetModel", "row", "(III)I"⟩ ⟨"WakeLetModel", "row", "(III)I"⟩ ∈ gw := gw_4 (List.mem_of_getElem? (i := 27) rfl) rfl
theorem gk_4_28 : Cond.code ⟨"WakeLetModel", "row", "(III)I"⟩ prog_9_method_9_code 5 (some FieldType.int) ∈ gw := gw_4 (List.mem_of_getElem? (i := 28) rfl) rfl
theorem gk_4_29 : Cond.methodLink "WakeLetModel" 49 ⟨"WakeLetModel", "isRow", "(I)Z"⟩ ∈ gw := gw_4 (List.mem_of_getElem? (i := 29) rfl) rfl
theorem gk_4_30 : Cond.static ⟨"WakeLetModel", "isRow", "(I)Z"⟩ ∈ gw := gw_4 (List.mem_of_getElem? (i := 30) rfl) rfl
theorem gk_4_31 : Cond.code ⟨"WakeLetModel", "isRow", "(I)Z"⟩ prog_9_method_8_code 1 (some FieldType.boolean) ∈ gw := gw_4 (List.mem_of_getElem? (i := 31) rfl) rfl
theorem gk_4_32 : Cond.constantLong "WakeLetModel" 43 (7) ∈ gw := gw_4 (List.mem_of_getElem? (i := 32) rfl) rfl
theorem gk_4_33 : Cond.methodLink "WakeLetModel" 45 ⟨"WakeLetModel", "in", "(JJJ)Z"⟩ ∈ gw := gw_4 (List.mem_of_getElem? (i := 33) rfl) rfl
theorem gk_4_34 : Cond.static ⟨"WakeLetModel", "in", "(JJJ)Z"⟩ ∈ gw := gw_4 (List.mem_of_getElem? (i := 34) rfl) rfl
theorem gk_4_35 : Cond.code ⟨"WakeLetModel", "in", "(JJJ)Z"⟩ prog_9_method_3_code 6 (some FieldType.boolean) ∈ gw := gw_4 (List.mem_of_getElem? (i := 35) rfl) rfl
theorem gk_4_36 : Cond.constantLong "WakeLetModel" 53 (2) ∈ gw := gw_4 (List.mem_of_getElem? (i := 36) rfl) rfl
theorem gk_4_37 : Cond.constant "WakeLetModel" 55 (-1000001) ∈ gw := gw_4 (List.mem_of_getElem? (i := 37) rfl) rfl
theorem gk_4_38 : Cond.methodLink "WakeLetModel" 56 ⟨"WakeLetModel", "found", "(I)I"⟩ ∈ gw := gw_4 (List.mem_of_getElem? (i := 38) rfl) rfl
theorem gk_4_40 : Cond.instanceMethod ⟨"WakeLetModel", "found", "(I)I"⟩ ∈ gw := gw_4 (List.mem_of_getElem? (i := 40) rfl) rfl
theorem gk_4_41 : Cond.code ⟨"WakeLetModel", "found", "(I)I"⟩ prog_9_method_6_code 2 (some FieldType.int) ∈ gw := gw_4 (List.mem_of_getElem? (i := 41) rfl) rfl
theorem gk_4_42 : Cond.constant "WakeLetModel" 42 (-1000010) ∈ gw := gw_4 (List.mem_of_getElem? (i := 42) rfl) rfl
theorem gk_4_43 : Cond.methodLink "WakeLetModel" 60 ⟨"WakeLetModel", "good", "(I)I"⟩ ∈ gw := gw_4 (List.mem_of_getElem? (i := 43) rfl) rfl
theorem gk_4_45 : Cond.instanceMethod ⟨"WakeLetModel", "good", "(I)I"⟩ ∈ gw := gw_4 (List.mem_of_getElem? (i := 45) rfl) rfl
theorem gk_4_46 : Cond.code ⟨"WakeLetModel", "good", "(I)I"⟩ prog_9_method_7_code 2 (some FieldType.int) ∈ gw := gw_4 (List.mem_of_getElem? (i := 46) rfl) rfl
theorem gk_4_47 : Cond.methodLink "WakeLetLaw" 21 ⟨"WakeLetModel", "set", "(III)I"⟩ ∈ gw := gw_4 (List.mem_of_getElem? (i := 47) rfl) rfl
theorem gk_4_48 : Cond.instanceMethod ⟨"WakeLetModel", "set", "(III)I"⟩ ∈ gw := gw_4 (List.mem_of_getElem? (i := 48) rfl) rfl
theorem gk_4_49 : Cond.selects "WakeLetModel" ⟨"WakeLetModel", "set", "(III)I"⟩ ⟨"WakeLetModel", "set", "(III)I"⟩ ∈ gw := gw_4 (List.mem_of_getElem? (i := 49) rfl) rfl
theorem gk_4_50 : Cond.code ⟨"WakeLetModel", "set", "(III)I"⟩ prog_9_method_10_code 4 (some FieldType.int) ∈ gw := gw_4 (List.mem_of_getElem? (i := 50) rfl) rfl
theorem gk_4_51 : Cond.methodLink "WakeLetLaw" 26 ⟨"WakeLetModel", "copy", "(IIIII)I"⟩ ∈ gw := gw_4 (List.mem_of_getElem? (i := 51) rfl) rfl
theorem gk_4_52 : Cond.instanceMethod ⟨"WakeLetModel", "copy", "(IIIII)I"⟩ ∈ gw := gw_4 (List.mem_of_getElem? (i := 52) rfl) rfl
theorem gk_4_53 : Cond.selects "WakeLetModel" ⟨"WakeLetModel", "copy", "(IIIII)I"⟩ ⟨"WakeLetModel", "copy", "(IIIII)I"⟩ ∈ gw := gw_4 (List.mem_of_getElem? (i := 53) rfl) rfl
theorem gk_4_54 : Cond.code ⟨"WakeLetModel", "copy", "(IIIII)I"⟩ prog_9_method_12_code 7 (some FieldType.int) ∈ gw := gw_4 (List.mem_of_getElem? (i := 54) rfl) rfl
theorem gk_4_55 : Cond.methodLink "WakeLetModel" 63 ⟨"WakeLetModel", "isWithin", "(III)Z"⟩ ∈ gw := gw_4 (List.mem_of_getElem? (i := 55) rfl) rfl
theorem gk_4_56 : Cond.static ⟨"WakeLetModel", "isWithin", "(III)Z"⟩ ∈ gw := gw_4 (List.mem_of_getElem? (i := 56) rfl) rfl
theorem gk_4_57 : Cond.code ⟨"WakeLetModel", "isWithin", "(III)Z"⟩ prog_9_method_11_code 3 (some FieldType.boolean) ∈ gw := gw_4 (List.mem_of_getElem? (i := 57) rfl) rfl
theorem gk_4_58 : Cond.methodLink "WakeLetLaw" 31 ⟨"WakeLetModel", "drop", "(I)I"⟩ ∈ gw := gw_4 (List.mem_of_getElem? (i := 58) rfl) rfl
theorem gk_4_59 : Cond.instanceMethod ⟨"WakeLetModel", "drop", "(I)I"⟩ ∈ gw := gw_4 (List.mem_of_getElem? (i := 59) rfl) rfl
theorem gk_4_60 : Cond.selects "WakeLetModel" ⟨"WakeLetModel", "drop", "(I)I"⟩ ⟨"WakeLetModel", "drop", "(I)I"⟩ ∈ gw := gw_4 (List.mem_of_getElem? (i := 60) rfl) rfl
theorem gk_4_61 : Cond.code ⟨"WakeLetModel", "drop", "(I)I"⟩ prog_9_method_13_code 3 (some FieldType.int) ∈ gw := gw_4 (List.mem_of_getElem? (i := 61) rfl) rfl
theorem gk_4_62 : Cond.methodLink "WakeLetLaw" 35 ⟨"WakeLetModel", "feed", "(I)I"⟩ ∈ gw := gw_4 (List.mem_of_getElem? (i := 62) rfl) rfl
theorem gk_4_63 : Cond.instanceMethod ⟨"WakeLetModel", "feed", "(I)I"⟩ ∈ gw := gw_4 (List.mem_of_getElem? (i := 63) rfl) rfl
theorem gk_4_64 : Cond.selects "WakeLetModel" ⟨"WakeLetModel", "feed", "(I)I"⟩ ⟨"WakeLetModel", "feed", "(I)I"⟩ ∈ gw := gw_4 (List.mem_of_getElem? (i := 64) rfl) rfl
theorem gk_4_65 : Cond.code ⟨"WakeLetModel", "feed", "(I)I"⟩ prog_9_method_15_code 2 (some FieldType.int) ∈ gw := gw_4 (List.mem_of_getElem? (i := 65) rfl) rfl
theorem gk_4_66 : Cond.constantLong "WakeLetModel" 67 (255) ∈ gw := gw_4 (List.mem_of_getElem? (i := 66) rfl) rfl
theorem gk_4_67 : Cond.constant "WakeLetModel" 72 (-1000003) ∈ gw := gw_4 (List.mem_of_getElem? (i := 67) rfl) rfl
theorem gk_4_68 : Cond.methodLink "WakeLetLaw" 40 ⟨"WakeLetModel", "agency", "()I"⟩ ∈ gw := gw_4 (List.mem_of_getElem? (i := 68) rfl) rfl
theorem gk_4_69 : Cond.instanceMethod ⟨"WakeLetModel", "agency", "()I"⟩ ∈ gw := gw_4 (List.mem_of_getElem? (i := 69) rfl) rfl
theorem gk_4_70 : Cond.selects "WakeLetModel" ⟨"WakeLetModel", "agency", "()I"⟩ ⟨"WakeLetModel", "agency", "()I"⟩ ∈ gw := gw_4 (List.mem_of_getElem? (i := 70) rfl) rfl
theorem gk_4_71 : Cond.code ⟨"WakeLetModel", "agency", "()I"⟩ prog_9_method_26_code 2 (some FieldType.int) ∈ gw := gw_4 (List.mem_of_getElem? (i := 71) rfl) rfl
theorem gk_4_72 : Cond.methodLink "WakeLetModel" 112 ⟨"WakeLetModel", "takesLaw", "()Z"⟩ ∈ gw := gw_4 (List.mem_of_getElem? (i := 72) rfl) rfl
theorem gk_4_74 : Cond.instanceMethod ⟨"WakeLetModel", "takesLaw", "()Z"⟩ ∈ gw := gw_4 (List.mem_of_getElem? (i := 74) rfl) rfl
theorem gk_4_75 : Cond.code ⟨"WakeLetModel", "takesLaw", "()Z"⟩ prog_9_method_20_code 2 (some FieldType.boolean) ∈ gw := gw_4 (List.mem_of_getElem? (i := 75) rfl) rfl
theorem gk_4_76 : Cond.methodLink "WakeLetModel" 96 ⟨"WakeLetModel", "takes", "(I)Z"⟩ ∈ gw := gw_4 (List.mem_of_getElem? (i := 76) rfl) rfl
theorem gk_4_78 : Cond.instanceMethod ⟨"WakeLetModel", "takes", "(I)Z"⟩ ∈ gw := gw_4 (List.mem_of_getElem? (i := 78) rfl) rfl
theorem gk_4_79 : Cond.code ⟨"WakeLetModel", "takes", "(I)Z"⟩ prog_9_method_18_code 2 (some FieldType.boolean) ∈ gw := gw_4 (List.mem_of_getElem? (i := 79) rfl) rfl
theorem gk_4_80 : Cond.methodLink "WakeLetModel" 82 ⟨"WakeLetModel", "byteAt", "(I)I"⟩ ∈ gw := gw_4 (List.mem_of_getElem? (i := 80) rfl) rfl
theorem gk_4_82 : Cond.instanceMethod ⟨"WakeLetModel", "byteAt", "(I)I"⟩ ∈ gw := gw_4 (List.mem_of_getElem? (i := 82) rfl) rfl
theorem gk_4_83 : Cond.code ⟨"WakeLetModel", "byteAt", "(I)I"⟩ prog_9_method_16_code 2 (some FieldType.int) ∈ gw := gw_4 (List.mem_of_getElem? (i := 83) rfl) rfl
theorem gk_4_84 : Cond.methodLink "WakeLetModel" 85 ⟨"WakeLetModel", "fails", "(II)Z"⟩ ∈ gw := gw_4 (List.mem_of_getElem? (i := 84) rfl) rfl
theorem gk_4_86 : Cond.instanceMethod ⟨"WakeLetModel", "fails", "(II)Z"⟩ ∈ gw := gw_4 (List.mem_of_getElem? (i := 86) rfl) rfl
theorem gk_4_87 : Cond.code ⟨"WakeLetModel", "fails", "(II)Z"⟩ prog_9_method_17_code 3 (some FieldType.boolean) ∈ gw := gw_4 (List.mem_of_getElem? (i := 87) rfl) rfl
theorem gk_4_88 : Cond.methodLink "WakeLetModel" 99 ⟨"WakeLetModel", "takesNumber", "(III)Z"⟩ ∈ gw := gw_4 (List.mem_of_getElem? (i := 88) rfl) rfl
theorem gk_4_90 : Cond.instanceMethod ⟨"WakeLetModel", "takesNumber", "(III)Z"⟩ ∈ gw := gw_4 (List.mem_of_getElem? (i := 90) rfl) rfl
theorem gk_4_91 : Cond.code ⟨"WakeLetModel", "takesNumber", "(III)Z"⟩ prog_9_method_19_code 5 (some FieldType.boolean) ∈ gw := gw_4 (List.mem_of_getElem? (i := 91) rfl) rfl
theorem gk_4_92 : Cond.constantLong "WakeLetModel" 92 (48) ∈ gw := gw_4 (List.mem_of_getElem? (i := 92) rfl) rfl
theorem gk_4_93 : Cond.constantLong "WakeLetModel" 94 (57) ∈ gw := gw_4 (List.mem_of_getElem? (i := 93) rfl) rfl
theorem gk_4_94 : Cond.methodLink "WakeLetModel" 115 ⟨"WakeLetModel", "takesMore", "()Z"⟩ ∈ gw := gw_4 (List.mem_of_getElem? (i := 94) rfl) rfl
theorem gk_4_96 : Cond.instanceMethod ⟨"WakeLetModel", "takesMore", "()Z"⟩ ∈ gw := gw_4 (List.mem_of_getElem? (i := 96) rfl) rfl
theorem gk_4_97 : Cond.code ⟨"WakeLetModel", "takesMore", "()Z"⟩ prog_9_method_24_code 3 (some FieldType.boolean) ∈ gw := gw_4 (List.mem_of_getElem? (i := 97) rfl) rfl
theorem gk_4_98 : Cond.methodLink "WakeLetModel" 102 ⟨"WakeLetModel", "kindOf", "(I)I"⟩ ∈ gw := gw_4 (List.mem_of_getElem? (i := 98) rfl) rfl
theorem gk_4_99 : Cond.static ⟨"WakeLetModel", "kindOf", "(I)I"⟩ ∈ gw := gw_4 (List.mem_of_getElem? (i := 99) rfl) rfl
theorem gk_4_100 : Cond.code ⟨"WakeLetModel", "kindOf", "(I)I"⟩ prog_9_method_22_code 1 (some FieldType.int) ∈ gw := gw_4 (List.mem_of_getElem? (i := 100) rfl) rfl
theorem gk_4_101 : Cond.methodLink "WakeLetModel" 105 ⟨"WakeLetModel", "takesClient", "()Z"⟩ ∈ gw := gw_4 (List.mem_of_getElem? (i := 101) rfl) rfl
theorem gk_4_103 : Cond.instanceMethod ⟨"WakeLetModel", "takesClient", "()Z"⟩ ∈ gw := gw_4 (List.mem_of_getElem? (i := 103) rfl) rfl
theorem gk_4_104 : Cond.code ⟨"WakeLetModel", "takesClient", "()Z"⟩ prog_9_method_21_code 2 (some FieldType.boolean) ∈ gw := gw_4 (List.mem_of_getElem? (i := 104) rfl) rfl
theorem gk_4_105 : Cond.methodLink "WakeLetModel" 109 ⟨"WakeLetModel", "takesWaker", "(I)Z"⟩ ∈ gw := gw_4 (List.mem_of_getElem? (i := 105) rfl) rfl
theorem gk_4_107 : Cond.instanceMethod ⟨"WakeLetModel", "takesWaker", "(I)Z"⟩ ∈ gw := gw_4 (List.mem_of_getElem? (i := 107) rfl) rfl
theorem gk_4_108 : Cond.code ⟨"WakeLetModel", "takesWaker", "(I)Z"⟩ prog_9_method_23_code 6 (some FieldType.boolean) ∈ gw := gw_4 (List.mem_of_getElem? (i := 108) rfl) rfl
theorem gk_4_109 : Cond.constant "WakeLetModel" 118 (-1000100) ∈ gw := gw_4 (List.mem_of_getElem? (i := 109) rfl) rfl
theorem gk_4_110 : Cond.methodLink "WakeLetModel" 119 ⟨"WakeLetModel", "copyAll", "(II)V"⟩ ∈ gw := gw_4 (List.mem_of_getElem? (i := 110) rfl) rfl
theorem gk_4_112 : Cond.instanceMethod ⟨"WakeLetModel", "copyAll", "(II)V"⟩ ∈ gw := gw_4 (List.mem_of_getElem? (i := 112) rfl) rfl
theorem gk_4_113 : Cond.code ⟨"WakeLetModel", "copyAll", "(II)V"⟩ prog_9_method_25_code 4 none ∈ gw := gw_4 (List.mem_of_getElem? (i := 113) rfl) rfl
theorem gk_4_114 : Cond.methodLink "WakeLetLaw" 44 ⟨"WakeLetModel", "fault", "()I"⟩ ∈ gw := gw_4 (List.mem_of_getElem? (i := 114) rfl) rfl
theorem gk_4_115 : Cond.instanceMethod ⟨"WakeLetModel", "fault", "()I"⟩ ∈ gw := gw_4 (List.mem_of_getElem? (i := 115) rfl) rfl
theorem gk_4_116 : Cond.selects "WakeLetModel" ⟨"WakeLetModel", "fault", "()I"⟩ ⟨"WakeLetModel", "fault", "()I"⟩ ∈ gw := gw_4 (List.mem_of_getElem? (i := 116) rfl) rfl
theorem gk_4_117 : Cond.code ⟨"WakeLetModel", "fault", "()I"⟩ prog_9_method_27_code 1 (some FieldType.int) ∈ gw := gw_4 (List.mem_of_getElem? (i := 117) rfl) rfl
theorem gk_4_118 : Cond.methodLink "WakeLetLaw" 48 ⟨"WakeLetModel", "nights", "(I)I"⟩ ∈ gw := gw_4 (List.mem_of_getElem? (i := 118) rfl) rfl
theorem gk_4_119 : Cond.instanceMethod ⟨"WakeLetModel", "nights", "(I)I"⟩ ∈ gw := gw_4 (List.mem_of_getElem? (i := 119) rfl) rfl
theorem gk_4_120 : Cond.selects "WakeLetModel" ⟨"WakeLetModel", "nights", "(I)I"⟩ ⟨"WakeLetModel", "nights", "(I)I"⟩ ∈ gw := gw_4 (List.mem_of_getElem? (i := 120) rfl) rfl
theorem gk_4_121 : Cond.code ⟨"WakeLetModel", "nights", "(I)I"⟩ prog_9_method_38_code 3 (some FieldType.int) ∈ gw := gw_4 (List.mem_of_getElem? (i := 121) rfl) rfl
theorem gk_4_122 : Cond.methodLink "WakeLetModel" 143 ⟨"WakeLetModel", "isAgency", "()Z"⟩ ∈ gw := gw_4 (List.mem_of_getElem? (i := 122) rfl) rfl
theorem gk_4_124 : Cond.instanceMethod ⟨"WakeLetModel", "isAgency", "()Z"⟩ ∈ gw := gw_4 (List.mem_of_getElem? (i := 124) rfl) rfl
theorem gk_4_125 : Cond.code ⟨"WakeLetModel", "isAgency", "()Z"⟩ prog_9_method_28_code 1 (some FieldType.boolean) ∈ gw := gw_4 (List.mem_of_getElem? (i := 125) rfl) rfl
theorem gk_4_126 : Cond.constant "WakeLetModel" 146 (-1000002) ∈ gw := gw_4 (List.mem_of_getElem? (i := 126) rfl) rfl
theorem gk_4_127 : Cond.constantLong "WakeLetModel" 147 (24) ∈ gw := gw_4 (List.mem_of_getElem? (i := 127) rfl) rfl
theorem gk_4_128 : Cond.methodLink "WakeLetModel" 149 ⟨"WakeLetModel", "minds", "()V"⟩ ∈ gw := gw_4 (List.mem_of_getElem? (i := 128) rfl) rfl
theorem gk_4_130 : Cond.instanceMethod ⟨"WakeLetModel", "minds", "()V"⟩ ∈ gw := gw_4 (List.mem_of_getElem? (i := 130) rfl) rfl
theorem gk_4_131 : Cond.code ⟨"WakeLetModel", "minds", "()V"⟩ prog_9_method_37_code 2 none ∈ gw := gw_4 (List.mem_of_getElem? (i := 131) rfl) rfl
theorem gk_4_132 : Cond.methodLink "WakeLetModel" 152 ⟨"WakeLetModel", "passes", "(II)V"⟩ ∈ gw := gw_4 (List.mem_of_getElem? (i := 132) rfl) rfl
theorem gk_4_134 : Cond.instanceMethod ⟨"WakeLetModel", "passes", "(II)V"⟩ ∈ gw := gw_4 (List.mem_of_getElem? (i := 134) rfl) rfl
theorem gk_4_135 : Cond.code ⟨"WakeLetModel", "passes", "(II)V"⟩ prog_9_method_35_code 7 none ∈ gw := gw_4 (List.mem_of_getElem? (i := 135) rfl) rfl
theorem gk_4_136 : Cond.methodLink "WakeLetModel" 139 ⟨"WakeLetModel", "lighter", "(III)I"⟩ ∈ gw := gw_4 (List.mem_of_getElem? (i := 136) rfl) rfl
theorem gk_4_138 : Cond.instanceMethod ⟨"WakeLetModel", "lighter", "(III)I"⟩ ∈ gw := gw_4 (List.mem_of_getElem? (i := 138) rfl) rfl
theorem gk_4_139 : Cond.code ⟨"WakeLetModel", "lighter", "(III)I"⟩ prog_9_method_34_code 7 (some FieldType.int) ∈ gw := gw_4 (List.mem_of_getElem? (i := 139) rfl) rfl
theorem gk_4_140 : Cond.methodLink "WakeLetModel" 133 ⟨"WakeLetModel", "has", "(II)Z"⟩ ∈ gw := gw_4 (List.mem_of_getElem? (i := 140) rfl) rfl
theorem gk_4_141 : Cond.static ⟨"WakeLetModel", "has", "(II)Z"⟩ ∈ gw := gw_4 (List.mem_of_getElem? (i := 141) rfl) rfl
theorem gk_4_142 : Cond.code ⟨"WakeLetModel", "has", "(II)Z"⟩ prog_9_method_4_code 2 (some FieldType.boolean) ∈ gw := gw_4 (List.mem_of_getElem? (i := 142) rfl) rfl
theorem gk_4_143 : Cond.methodLink "WakeLetModel" 126 ⟨"WakeLetModel", "isFit", "(II)Z"⟩ ∈ gw := gw_4 (List.mem_of_getElem? (i := 143) rfl) rfl
theorem gk_4_145 : Cond.instanceMethod ⟨"WakeLetModel", "isFit", "(II)Z"⟩ ∈ gw := gw_4 (List.mem_of_getElem? (i := 145) rfl) rfl
theorem gk_4_146 : Cond.code ⟨"WakeLetModel", "isFit", "(II)Z"⟩ prog_9_method_31_code 3 (some FieldType.boolean) ∈ gw := gw_4 (List.mem_of_getElem? (i := 146) rfl) rfl
theorem gk_4_147 : Cond.methodLink "WakeLetModel" 136 ⟨"WakeLetModel", "lies", "(II)I"⟩ ∈ gw := gw_4 (List.mem_of_getElem? (i := 147) rfl) rfl
theorem gk_4_149 : Cond.instanceMethod ⟨"WakeLetModel", "lies", "(II)I"⟩ ∈ gw := gw_4 (List.mem_of_getElem? (i := 149) rfl) rfl
theorem gk_4_150 : Cond.code ⟨"WakeLetModel", "lies", "(II)I"⟩ prog_9_method_33_code 6 (some FieldType.int) ∈ gw := gw_4 (List.mem_of_getElem? (i := 150) rfl) rfl
theorem gk_4_151 : Cond.methodLink "WakeLetModel" 129 ⟨"WakeLetModel", "guards", "(II)I"⟩ ∈ gw := gw_4 (List.mem_of_getElem? (i := 151) rfl) rfl
theorem gk_4_152 : Cond.static ⟨"WakeLetModel", "guards", "(II)I"⟩ ∈ gw := gw_4 (List.mem_of_getElem? (i := 152) rfl) rfl
theorem gk_4_153 : Cond.code ⟨"WakeLetModel", "guards", "(II)I"⟩ prog_9_method_32_code 2 (some FieldType.int) ∈ gw := gw_4 (List.mem_of_getElem? (i := 153) rfl) rfl
theorem gk_4_154 : Cond.methodLink "WakeLetModel" 155 ⟨"WakeLetModel", "restsIn", "(I)I"⟩ ∈ gw := gw_4 (List.mem_of_getElem? (i := 154) rfl) rfl
theorem gk_4_156 : Cond.instanceMethod ⟨"WakeLetModel", "restsIn", "(I)I"⟩ ∈ gw := gw_4 (List.mem_of_getElem? (i := 156) rfl) rfl
theorem gk_4_157 : Cond.code ⟨"WakeLetModel", "restsIn", "(I)I"⟩ prog_9_method_36_code 4 (some FieldType.int) ∈ gw := gw_4 (List.mem_of_getElem? (i := 157) rfl) rfl
theorem gk_4_158 : Cond.methodLink "WakeLetLaw" 53 ⟨"WakeLetModel", "let", "(II)I"⟩ ∈ gw := gw_4 (List.mem_of_getElem? (i := 158) rfl) rfl
theorem gk_4_159 : Cond.instanceMethod ⟨"WakeLetModel", "let", "(II)I"⟩ ∈ gw := gw_4 (List.mem_of_getElem? (i := 159) rfl) rfl
theorem gk_4_160 : Cond.selects "WakeLetModel" ⟨"WakeLetModel", "let", "(II)I"⟩ ⟨"WakeLetModel", "let", "(II)I"⟩ ∈ gw := gw_4 (List.mem_of_getElem? (i := 160) rfl) rfl
theorem gk_4_161 : Cond.code ⟨"WakeLetModel", "let", "(II)I"⟩ prog_9_method_39_code 4 (some FieldType.int) ∈ gw := gw_4 (List.mem_of_getElem? (i := 161) rfl) rfl
theorem gk_4_162 : Cond.methodLink "WakeLetModel" 158 ⟨"WakeLetModel", "isWaker", "(I)Z"⟩ ∈ gw := gw_4 (List.mem_of_getElem? (i := 162) rfl) rfl
theorem gk_4_164 : Cond.instanceMethod ⟨"WakeLetModel", "isWaker", "(I)Z"⟩ ∈ gw := gw_4 (List.mem_of_getElem? (i := 164) rfl) rfl
theorem gk_4_165 : Cond.code ⟨"WakeLetModel", "isWaker", "(I)Z"⟩ prog_9_method_30_code 2 (some FieldType.boolean) ∈ gw := gw_4 (List.mem_of_getElem? (i := 165) rfl) rfl
theorem gk_4_166 : Cond.methodLink "WakeLetModel" 161 ⟨"WakeLetModel", "isClient", "(I)Z"⟩ ∈ gw := gw_4 (List.mem_of_getElem? (i := 166) rfl) rfl
theorem gk_4_168 : Cond.instanceMethod ⟨"WakeLetModel", "isClient", "(I)Z"⟩ ∈ gw := gw_4 (List.mem_of_getElem? (i := 168) rfl) rfl
theorem gk_4_169 : Cond.code ⟨"WakeLetModel", "isClient", "(I)Z"⟩ prog_9_method_29_code 2 (some FieldType.boolean) ∈ gw := gw_4 (List.mem_of_getElem? (i := 169) rfl) rfl
theorem gk_4_170 : Cond.methodLink "WakeLetLaw" 57 ⟨"WakeLetModel", "grow", "(II)I"⟩ ∈ gw := gw_4 (List.mem_of_getElem? (i := 170) rfl) rfl
theorem gk_4_171 : Cond.instanceMethod ⟨"WakeLetModel", "grow", "(II)I"⟩ ∈ gw := gw_4 (List.mem_of_getElem? (i := 171) rfl) rfl
theorem gk_4_172 : Cond.selects "WakeLetModel" ⟨"WakeLetModel", "grow", "(II)I"⟩ ⟨"WakeLetModel", "grow", "(II)I"⟩ ∈ gw := gw_4 (List.mem_of_getElem? (i := 172) rfl) rfl
theorem gk_4_173 : Cond.code ⟨"WakeLetModel", "grow", "(II)I"⟩ prog_9_method_40_code 3 (some FieldType.int) ∈ gw := gw_4 (List.mem_of_getElem? (i := 173) rfl) rfl
theorem gk_4_174 : Cond.constantLong "WakeLetModel" 164 (20) ∈ gw := gw_4 (List.mem_of_getElem? (i := 174) rfl) rfl
theorem gk_4_175 : Cond.methodLink "WakeLetLaw" 61 ⟨"WakeLetModel", "learn", "(II)I"⟩ ∈ gw := gw_4 (List.mem_of_getElem? (i := 175) rfl) rfl
theorem gk_4_176 : Cond.instanceMethod ⟨"WakeLetModel", "learn", "(II)I"⟩ ∈ gw := gw_4 (List.mem_of_getElem? (i := 176) rfl) rfl
theorem gk_4_177 : Cond.selects "WakeLetModel" ⟨"WakeLetModel", "learn", "(II)I"⟩ ⟨"WakeLetModel", "learn", "(II)I"⟩ ∈ gw := gw_4 (List.mem_of_getElem? (i := 177) rfl) rfl
theorem gk_4_178 : Cond.code ⟨"WakeLetModel", "learn", "(II)I"⟩ prog_9_method_41_code 4 (some FieldType.int) ∈ gw := gw_4 (List.mem_of_getElem? (i := 178) rfl) rfl
theorem gk_4_179 : Cond.constantLong "WakeLetModel" 166 (5) ∈ gw := gw_4 (List.mem_of_getElem? (i := 179) rfl) rfl
theorem gk_4_180 : Cond.methodLink "WakeLetLaw" 65 ⟨"WakeLetModel", "undo", "()I"⟩ ∈ gw := gw_4 (List.mem_of_getElem? (i := 180) rfl) rfl
theorem gk_4_181 : Cond.instanceMethod ⟨"WakeLetModel", "undo", "()I"⟩ ∈ gw := gw_4 (List.mem_of_getElem? (i := 181) rfl) rfl
theorem gk_4_182 : Cond.selects "WakeLetModel" ⟨"WakeLetModel", "undo", "()I"⟩ ⟨"WakeLetModel", "undo", "()I"⟩ ∈ gw := gw_4 (List.mem_of_getElem? (i := 182) rfl) rfl
theorem gk_4_183 : Cond.code ⟨"WakeLetModel", "undo", "()I"⟩ prog_9_method_42_code 2 (some FieldType.int) ∈ gw := gw_4 (List.mem_of_getElem? (i := 183) rfl) rfl
theorem gk_4_184 : Cond.methodLink "WakeLetLaw" 69 ⟨"WakeLetModel", "client", "(II)I"⟩ ∈ gw := gw_4 (List.mem_of_getElem? (i := 184) rfl) rfl
theorem gk_4_185 : Cond.instanceMethod ⟨"WakeLetModel", "client", "(II)I"⟩ ∈ gw := gw_4 (List.mem_of_getElem? (i := 185) rfl) rfl
theorem gk_4_186 : Cond.selects "WakeLetModel" ⟨"WakeLetModel", "client", "(II)I"⟩ ⟨"WakeLetModel", "client", "(II)I"⟩ ∈ gw := gw_4 (List.mem_of_getElem? (i := 186) rfl) rfl
theorem gk_4_187 : Cond.code ⟨"WakeLetModel", "client", "(II)I"⟩ prog_9_method_43_code 5 (some FieldType.int) ∈ gw := gw_4 (List.mem_of_getElem? (i := 187) rfl) rfl
theorem gk_4_188 : Cond.methodLink "WakeLetLaw" 73 ⟨"WakeLetModel", "waker", "(II)I"⟩ ∈ gw := gw_4 (List.mem_of_getElem? (i := 188) rfl) rfl
theorem gk_4_189 : Cond.instanceMethod ⟨"WakeLetModel", "waker", "(II)I"⟩ ∈ gw := gw_4 (List.mem_of_getElem? (i := 189) rfl) rfl
theorem gk_4_190 : Cond.selects "WakeLetModel" ⟨"WakeLetModel", "waker", "(II)I"⟩ ⟨"WakeLetModel", "waker", "(II)I"⟩ ∈ gw := gw_4 (List.mem_of_getElem? (i := 190) rfl) rfl
theorem gk_4_191 : Cond.code ⟨"WakeLetModel", "waker", "(II)I"⟩ prog_9_method_44_code 3 (some FieldType.int) ∈ gw := gw_4 (List.mem_of_getElem? (i := 191) rfl) rfl
theorem gk_4_192 : Cond.methodLink "WakeLetLaw" 77 ⟨"WakeLetModel", "weight", "(II)I"⟩ ∈ gw := gw_4 (List.mem_of_getElem? (i := 192) rfl) rfl
theorem gk_4_193 : Cond.instanceMethod ⟨"WakeLetModel", "weight", "(II)I"⟩ ∈ gw := gw_4 (List.mem_of_getElem? (i := 193) rfl) rfl
theorem gk_4_194 : Cond.selects "WakeLetModel" ⟨"WakeLetModel", "weight", "(II)I"⟩ ⟨"WakeLetModel", "weight", "(II)I"⟩ ∈ gw := gw_4 (List.mem_of_getElem? (i := 194) rfl) rfl
theorem gk_4_195 : Cond.code ⟨"WakeLetModel", "weight", "(II)I"⟩ prog_9_method_48_code 3 (some FieldType.int) ∈ gw := gw_4 (List.mem_of_getElem? (i := 195) rfl) rfl
theorem gk_4_196 : Cond.methodLink "WakeLetModel" 174 ⟨"WakeLetModel", "isSpan", "(I)Z"⟩ ∈ gw := gw_4 (List.mem_of_getElem? (i := 196) rfl) rfl
theorem gk_4_197 : Cond.static ⟨"WakeLetModel", "isSpan", "(I)Z"⟩ ∈ gw := gw_4 (List.mem_of_getElem? (i := 197) rfl) rfl
theorem gk_4_198 : Cond.code ⟨"WakeLetModel", "isSpan", "(I)Z"⟩ prog_9_method_45_code 1 (some FieldType.boolean) ∈ gw := gw_4 (List.mem_of_getElem? (i := 198) rfl) rfl
theorem gk_4_199 : Cond.constantLong "WakeLetModel" 168 (60) ∈ gw := gw_4 (List.mem_of_getElem? (i := 199) rfl) rfl
theorem gk_4_200 : Cond.methodLink "WakeLetModel" 177 ⟨"WakeLetModel", "triesFrom", "(I)V"⟩ ∈ gw := gw_4 (List.mem_of_getElem? (i := 200) rfl) rfl
theorem gk_4_202 : Cond.instanceMethod ⟨"WakeLetModel", "triesFrom", "(I)V"⟩ ∈ gw := gw_4 (List.mem_of_getElem? (i := 202) rfl) rfl
theorem gk_4_203 : Cond.code ⟨"WakeLetModel", "triesFrom", "(I)V"⟩ prog_9_method_47_code 2 none ∈ gw := gw_4 (List.mem_of_getElem? (i := 203) rfl) rfl
theorem gk_4_204 : Cond.methodLink "WakeLetModel" 170 ⟨"WakeLetModel", "tries", "(I)V"⟩ ∈ gw := gw_4 (List.mem_of_getElem? (i := 204) rfl) rfl
theorem gk_4_206 : Cond.instanceMethod ⟨"WakeLetModel", "tries", "(I)V"⟩ ∈ gw := gw_4 (List.mem_of_getElem? (i := 206) rfl) rfl
theorem gk_4_207 : Cond.code ⟨"WakeLetModel", "tries", "(I)V"⟩ prog_9_method_46_code 3 none ∈ gw := gw_4 (List.mem_of_getElem? (i := 207) rfl) rfl
theorem gk_4_208 : Cond.methodLink "WakeLetLaw" 81 ⟨"WakeLetModel", "earned", "(II)I"⟩ ∈ gw := gw_4 (List.mem_of_getElem? (i := 208) rfl) rfl
theorem gk_4_209 : Cond.instanceMethod ⟨"WakeLetModel", "earned", "(II)I"⟩ ∈ gw := gw_4 (List.mem_of_getElem? (i := 209) rfl) rfl
theorem gk_4_210 : Cond.selects "WakeLetModel" ⟨"WakeLetModel", "earned", "(II)I"⟩ ⟨"WakeLetModel", "earned", "(II)I"⟩ ∈ gw := gw_4 (List.mem_of_getElem? (i := 210) rfl) rfl
theorem gk_4_211 : Cond.code ⟨"WakeLetModel", "earned", "(II)I"⟩ prog_9_method_49_code 3 (some FieldType.int) ∈ gw := gw_4 (List.mem_of_getElem? (i := 211) rfl) rfl
theorem gk_4_212 : Cond.methodLink "WakeLetLaw" 85 ⟨"WakeLetModel", "rests", "(I)I"⟩ ∈ gw := gw_4 (List.mem_of_getElem? (i := 212) rfl) rfl
theorem gk_4_213 : Cond.instanceMethod ⟨"WakeLetModel", "rests", "(I)I"⟩ ∈ gw := gw_4 (List.mem_of_getElem? (i := 213) rfl) rfl
theorem gk_4_214 : Cond.selects "WakeLetModel" ⟨"WakeLetModel", "rests", "(I)I"⟩ ⟨"WakeLetModel", "rests", "(I)I"⟩ ∈ gw := gw_4 (List.mem_of_getElem? (i := 214) rfl) rfl
theorem gk_4_215 : Cond.code ⟨"WakeLetModel", "rests", "(I)I"⟩ prog_9_method_50_code 2 (some FieldType.int) ∈ gw := gw_4 (List.mem_of_getElem? (i := 215) rfl) rfl
theorem gk_4_216 : Cond.methodLink "WakeLetLaw" 89 ⟨"WakeLetModel", "when", "(I)I"⟩ ∈ gw := gw_4 (List.mem_of_getElem? (i := 216) rfl) rfl
theorem gk_4_217 : Cond.instanceMethod ⟨"WakeLetModel", "when", "(I)I"⟩ ∈ gw := gw_4 (List.mem_of_getElem? (i := 217) rfl) rfl
theorem gk_4_218 : Cond.selects "WakeLetModel" ⟨"WakeLetModel", "when", "(I)I"⟩ ⟨"WakeLetModel", "when", "(I)I"⟩ ∈ gw := gw_4 (List.mem_of_getElem? (i := 218) rfl) rfl
theorem gk_4_219 : Cond.code ⟨"WakeLetModel", "when", "(I)I"⟩ prog_9_method_52_code 2 (some FieldType.int) ∈ gw := gw_4 (List.mem_of_getElem? (i := 219) rfl) rfl
theorem gk_4_220 : Cond.methodLink "WakeLetModel" 181 ⟨"WakeLetModel", "firstOf", "(I)I"⟩ ∈ gw := gw_4 (List.mem_of_getElem? (i := 220) rfl) rfl
theorem gk_4_222 : Cond.instanceMethod ⟨"WakeLetModel", "firstOf", "(I)I"⟩ ∈ gw := gw_4 (List.mem_of_getElem? (i := 222) rfl) rfl
theorem gk_4_223 : Cond.code ⟨"WakeLetModel", "firstOf", "(I)I"⟩ prog_9_method_51_code 3 (some FieldType.int) ∈ gw := gw_4 (List.mem_of_getElem? (i := 223) rfl) rfl
theorem gk_4_224 : Cond.constant "WakeLetModel" 180 (-1000000) ∈ gw := gw_4 (List.mem_of_getElem? (i := 224) rfl) rfl
theorem gk_4_225 : Cond.methodLink "WakeLetLaw" 93 ⟨"WakeLetModel", "all", "(I)I"⟩ ∈ gw := gw_4 (List.mem_of_getElem? (i := 225) rfl) rfl
theorem gk_4_226 : Cond.instanceMethod ⟨"WakeLetModel", "all", "(I)I"⟩ ∈ gw := gw_4 (List.mem_of_getElem? (i := 226) rfl) rfl
theorem gk_4_227 : Cond.selects "WakeLetModel" ⟨"WakeLetModel", "all", "(I)I"⟩ ⟨"WakeLetModel", "all", "(I)I"⟩ ∈ gw := gw_4 (List.mem_of_getElem? (i := 227) rfl) rfl
theorem gk_4_228 : Cond.code ⟨"WakeLetModel", "all", "(I)I"⟩ prog_9_method_54_code 2 (some FieldType.int) ∈ gw := gw_4 (List.mem_of_getElem? (i := 228) rfl) rfl
theorem gk_4_229 : Cond.methodLink "WakeLetModel" 184 ⟨"WakeLetModel", "isSet", "(I)Z"⟩ ∈ gw := gw_4 (List.mem_of_getElem? (i := 229) rfl) rfl
theorem gk_4_231 : Cond.instanceMethod ⟨"WakeLetModel", "isSet", "(I)Z"⟩ ∈ gw := gw_4 (List.mem_of_getElem? (i := 231) rfl) rfl
theorem gk_4_232 : Cond.code ⟨"WakeLetModel", "isSet", "(I)Z"⟩ prog_9_method_53_code 2 (some FieldType.boolean) ∈ gw := gw_4 (List.mem_of_getElem? (i := 232) rfl) rfl
theorem gk_4_233 : Cond.methodLink "WakeLetLaw" 97 ⟨"WakeLetModel", "never", "()I"⟩ ∈ gw := gw_4 (List.mem_of_getElem? (i := 233) rfl) rfl
theorem gk_4_234 : Cond.instanceMethod ⟨"WakeLetModel", "never", "()I"⟩ ∈ gw := gw_4 (List.mem_of_getElem? (i := 234) rfl) rfl
theorem gk_4_235 : Cond.selects "WakeLetModel" ⟨"WakeLetModel", "never", "()I"⟩ ⟨"WakeLetModel", "never", "()I"⟩ ∈ gw := gw_4 (List.mem_of_getElem? (i := 235) rfl) rfl
theorem gk_4_236 : Cond.code ⟨"WakeLetModel", "never", "()I"⟩ prog_9_method_55_code 3 (some FieldType.int) ∈ gw := gw_4 (List.mem_of_getElem? (i := 236) rfl) rfl
theorem gk_4_237 : Cond.methodLink "WakeLetLaw" 101 ⟨"WakeLetModel", "best", "(II)I"⟩ ∈ gw := gw_4 (List.mem_of_getElem? (i := 237) rfl) rfl
theorem gk_4_238 : Cond.instanceMethod ⟨"WakeLetModel", "best", "(II)I"⟩ ∈ gw := gw_4 (List.mem_of_getElem? (i := 238) rfl) rfl
theorem gk_4_239 : Cond.selects "WakeLetModel" ⟨"WakeLetModel", "best", "(II)I"⟩ ⟨"WakeLetModel", "best", "(II)I"⟩ ∈ gw := gw_4 (List.mem_of_getElem? (i := 239) rfl) rfl
theorem gk_5_0 : Cond.code ⟨"WakeLetModel", "best", "(II)I"⟩ prog_9_method_60_code 9 (some FieldType.int) ∈ gw := gw_5 (List.mem_of_getElem? (i := 0) rfl) rfl
theorem gk_5_1 : Cond.constantLong "WakeLetModel" 190 (-2) ∈ gw := gw_5 (List.mem_of_getElem? (i := 1) rfl) rfl
theorem gk_5_2 : Cond.constantLong "WakeLetModel" 192 (3) ∈ gw := gw_5 (List.mem_of_getElem? (i := 2) rfl) rfl
theorem gk_5_3 : Cond.methodLink "WakeLetModel" 194 ⟨"WakeLetModel", "allLets", "()I"⟩ ∈ gw := gw_5 (List.mem_of_getElem? (i := 3) rfl) rfl
theorem gk_5_5 : Cond.instanceMethod ⟨"WakeLetModel", "allLets", "()I"⟩ ∈ gw := gw_5 (List.mem_of_getElem? (i := 5) rfl) rfl
theorem gk_5_6 : Cond.code ⟨"WakeLetModel", "allLets", "()I"⟩ prog_9_method_56_code 3 (some FieldType.int) ∈ gw := gw_5 (List.mem_of_getElem? (i := 6) rfl) rfl
theorem gk_5_7 : Cond.methodLink "WakeLetModel" 198 ⟨"WakeLetModel", "triesLets", "(II)I"⟩ ∈ gw := gw_5 (List.mem_of_getElem? (i := 7) rfl) rfl
theorem gk_5_9 : Cond.instanceMethod ⟨"WakeLetModel", "triesLets", "(II)I"⟩ ∈ gw := gw_5 (List.mem_of_getElem? (i := 9) rfl) rfl
theorem gk_5_10 : Cond.code ⟨"WakeLetModel", "triesLets", "(II)I"⟩ prog_9_method_58_code 5 (some FieldType.int) ∈ gw := gw_5 (List.mem_of_getElem? (i := 10) rfl) rfl
theorem gk_5_11 : Cond.methodLink "WakeLetModel" 187 ⟨"WakeLetModel", "letBy", "(II)I"⟩ ∈ gw := gw_5 (List.mem_of_getElem? (i := 11) rfl) rfl
theorem gk_5_13 : Cond.instanceMethod ⟨"WakeLetModel", "letBy", "(II)I"⟩ ∈ gw := gw_5 (List.mem_of_getElem? (i := 13) rfl) rfl
theorem gk_5_14 : Cond.code ⟨"WakeLetModel", "letBy", "(II)I"⟩ prog_9_method_57_code 5 (some FieldType.int) ∈ gw := gw_5 (List.mem_of_getElem? (i := 14) rfl) rfl
theorem gk_5_15 : Cond.methodLink "WakeLetModel" 201 ⟨"WakeLetModel", "ones", "(I)I"⟩ ∈ gw := gw_5 (List.mem_of_getElem? (i := 15) rfl) rfl
theorem gk_5_16 : Cond.static ⟨"WakeLetModel", "ones", "(I)I"⟩ ∈ gw := gw_5 (List.mem_of_getElem? (i := 16) rfl) rfl
theorem gk_5_17 : Cond.code ⟨"WakeLetModel", "ones", "(I)I"⟩ prog_9_method_5_code 3 (some FieldType.int) ∈ gw := gw_5 (List.mem_of_getElem? (i := 17) rfl) rfl
theorem gk_5_18 : Cond.methodLink "WakeLetModel" 204 ⟨"WakeLetModel", "weightsIn", "(I)I"⟩ ∈ gw := gw_5 (List.mem_of_getElem? (i := 18) rfl) rfl
theorem gk_5_20 : Cond.instanceMethod ⟨"WakeLetModel", "weightsIn", "(I)I"⟩ ∈ gw := gw_5 (List.mem_of_getElem? (i := 20) rfl) rfl
theorem gk_5_21 : Cond.code ⟨"WakeLetModel", "weightsIn", "(I)I"⟩ prog_9_method_59_code 4 (some FieldType.int) ∈ gw := gw_5 (List.mem_of_getElem? (i := 21) rfl) rfl
theorem gk_5_22 : Cond.methodLink "WakeLetLaw" 105 ⟨"WakeLetModel", "fewest", "(III)I"⟩ ∈ gw := gw_5 (List.mem_of_getElem? (i := 22) rfl) rfl
theorem gk_5_23 : Cond.instanceMethod ⟨"WakeLetModel", "fewest", "(III)I"⟩ ∈ gw := gw_5 (List.mem_of_getElem? (i := 23) rfl) rfl
theorem gk_5_24 : Cond.selects "WakeLetModel" ⟨"WakeLetModel", "fewest", "(III)I"⟩ ⟨"WakeLetModel", "fewest", "(III)I"⟩ ∈ gw := gw_5 (List.mem_of_getElem? (i := 24) rfl) rfl
theorem gk_5_25 : Cond.code ⟨"WakeLetModel", "fewest", "(III)I"⟩ prog_9_method_61_code 9 (some FieldType.int) ∈ gw := gw_5 (List.mem_of_getElem? (i := 25) rfl) rfl
theorem gk_5_26 : Cond.constantLong "WakeLetModel" 207 (-1) ∈ gw := gw_5 (List.mem_of_getElem? (i := 26) rfl) rfl
theorem gk_5_27 : Cond.methodLink "WakeLetLaw" 109 ⟨"WakeLetModel", "fits", "(IIIII)I"⟩ ∈ gw := gw_5 (List.mem_of_getElem? (i := 27) rfl) rfl
theorem gk_5_28 : Cond.instanceMethod ⟨"WakeLetModel", "fits", "(IIIII)I"⟩ ∈ gw := gw_5 (List.mem_of_getElem? (i := 28) rfl) rfl
theorem gk_5_29 : Cond.selects "WakeLetModel" ⟨"WakeLetModel", "fits", "(IIIII)I"⟩ ⟨"WakeLetModel", "fits", "(IIIII)I"⟩ ∈ gw := gw_5 (List.mem_of_getElem? (i := 29) rfl) rfl
theorem gk_5_30 : Cond.code ⟨"WakeLetModel", "fits", "(IIIII)I"⟩ prog_9_method_63_code 12 (some FieldType.int) ∈ gw := gw_5 (List.mem_of_getElem? (i := 30) rfl) rfl
theorem gk_5_31 : Cond.constantLong "WakeLetModel" 209 (16) ∈ gw := gw_5 (List.mem_of_getElem? (i := 31) rfl) rfl
theorem gk_5_32 : Cond.methodLink "WakeLetModel" 211 ⟨"WakeLetModel", "against", "(III)I"⟩ ∈ gw := gw_5 (List.mem_of_getElem? (i := 32) rfl) rfl
theorem gk_5_34 : Cond.instanceMethod ⟨"WakeLetModel", "against", "(III)I"⟩ ∈ gw := gw_5 (List.mem_of_getElem? (i := 34) rfl) rfl
theorem gk_5_35 : Cond.code ⟨"WakeLetModel", "against", "(III)I"⟩ prog_9_method_14_code 4 (some FieldType.int) ∈ gw := gw_5 (List.mem_of_getElem? (i := 35) rfl) rfl
theorem gk_5_36 : Cond.methodLink "WakeLetModel" 214 ⟨"WakeLetModel", "isSo", "(II)Z"⟩ ∈ gw := gw_5 (List.mem_of_getElem? (i := 36) rfl) rfl
theorem gk_5_38 : Cond.instanceMethod ⟨"WakeLetModel", "isSo", "(II)Z"⟩ ∈ gw := gw_5 (List.mem_of_getElem? (i := 38) rfl) rfl
theorem gk_5_39 : Cond.code ⟨"WakeLetModel", "isSo", "(II)Z"⟩ prog_9_method_62_code 5 (some FieldType.boolean) ∈ gw := gw_5 (List.mem_of_getElem? (i := 39) rfl) rfl
theorem gk_5_40 : Cond.methodLink "WakeLetLaw" 113 ⟨"WakeLetModel", "nods", "(III)I"⟩ ∈ gw := gw_5 (List.mem_of_getElem? (i := 40) rfl) rfl
theorem gk_5_41 : Cond.instanceMethod ⟨"WakeLetModel", "nods", "(III)I"⟩ ∈ gw := gw_5 (List.mem_of_getElem? (i := 41) rfl) rfl
theorem gk_5_42 : Cond.selects "WakeLetModel" ⟨"WakeLetModel", "nods", "(III)I"⟩ ⟨"WakeLetModel", "nods", "(III)I"⟩ ∈ gw := gw_5 (List.mem_of_getElem? (i := 42) rfl) rfl
theorem gk_5_43 : Cond.code ⟨"WakeLetModel", "nods", "(III)I"⟩ prog_9_method_64_code 9 (some FieldType.int) ∈ gw := gw_5 (List.mem_of_getElem? (i := 43) rfl) rfl
theorem gk_5_44 : Cond.constantLong "WakeLetModel" 217 (10) ∈ gw := gw_5 (List.mem_of_getElem? (i := 44) rfl) rfl
theorem gk_5_45 : Cond.methodLink "WakeLetLaw" 117 ⟨"WakeLetModel", "drawn", "(III)I"⟩ ∈ gw := gw_5 (List.mem_of_getElem? (i := 45) rfl) rfl
theorem gk_5_46 : Cond.instanceMethod ⟨"WakeLetModel", "drawn", "(III)I"⟩ ∈ gw := gw_5 (List.mem_of_getElem? (i := 46) rfl) rfl
theorem gk_5_47 : Cond.selects "WakeLetModel" ⟨"WakeLetModel", "drawn", "(III)I"⟩ ⟨"WakeLetModel", "drawn", "(III)I"⟩ ∈ gw := gw_5 (List.mem_of_getElem? (i := 47) rfl) rfl
theorem gk_5_48 : Cond.code ⟨"WakeLetModel", "drawn", "(III)I"⟩ prog_9_method_65_code 10 (some FieldType.int) ∈ gw := gw_5 (List.mem_of_getElem? (i := 48) rfl) rfl
theorem gk_5_49 : Cond.constantLong "WakeLetModel" 219 (999999) ∈ gw := gw_5 (List.mem_of_getElem? (i := 49) rfl) rfl
theorem gk_5_50 : Cond.constantLong "WakeLetModel" 221 (16807) ∈ gw := gw_5 (List.mem_of_getElem? (i := 50) rfl) rfl
theorem gk_5_51 : Cond.constantLong "WakeLetModel" 223 (2147483647) ∈ gw := gw_5 (List.mem_of_getElem? (i := 51) rfl) rfl
theorem gk_5_52 : Cond.methodLink "WakeLetLaw" 121 ⟨"WakeLetModel", "image", "(I)I"⟩ ∈ gw := gw_5 (List.mem_of_getElem? (i := 52) rfl) rfl
theorem gk_5_53 : Cond.instanceMethod ⟨"WakeLetModel", "image", "(I)I"⟩ ∈ gw := gw_5 (List.mem_of_getElem? (i := 53) rfl) rfl
theorem gk_5_54 : Cond.selects "WakeLetModel" ⟨"WakeLetModel", "image", "(I)I"⟩ ⟨"WakeLetModel", "image", "(I)I"⟩ ∈ gw := gw_5 (List.mem_of_getElem? (i := 54) rfl) rfl
theorem gk_5_55 : Cond.code ⟨"WakeLetModel", "image", "(I)I"⟩ prog_9_method_66_code 2 (some FieldType.int) ∈ gw := gw_5 (List.mem_of_getElem? (i := 55) rfl) rfl
theorem gk_5_56 : Cond.methodLink "WakeLetLaw" 125 ⟨"WakeLetModel", "restore", "(I)I"⟩ ∈ gw := gw_5 (List.mem_of_getElem? (i := 56) rfl) rfl
theorem gk_5_57 : Cond.instanceMethod ⟨"WakeLetModel", "restore", "(I)I"⟩ ∈ gw := gw_5 (List.mem_of_getElem? (i := 57) rfl) rfl
theorem gk_5_58 : Cond.selects "WakeLetModel" ⟨"WakeLetModel", "restore", "(I)I"⟩ ⟨"WakeLetModel", "restore", "(I)I"⟩ ∈ gw := gw_5 (List.mem_of_getElem? (i := 58) rfl) rfl
theorem gk_5_59 : Cond.code ⟨"WakeLetModel", "restore", "(I)I"⟩ prog_9_method_67_code 2 (some FieldType.int) ∈ gw := gw_5 (List.mem_of_getElem? (i := 59) rfl) rfl
theorem gk_5_60 : Cond.methodLink "WakeLetLaw" 129 ⟨"WakeLetModel", "kind", "(I)I"⟩ ∈ gw := gw_5 (List.mem_of_getElem? (i := 60) rfl) rfl
theorem gk_5_61 : Cond.instanceMethod ⟨"WakeLetModel", "kind", "(I)I"⟩ ∈ gw := gw_5 (List.mem_of_getElem? (i := 61) rfl) rfl
theorem gk_5_62 : Cond.selects "WakeLetModel" ⟨"WakeLetModel", "kind", "(I)I"⟩ ⟨"WakeLetModel", "kind", "(I)I"⟩ ∈ gw := gw_5 (List.mem_of_getElem? (i := 62) rfl) rfl
theorem gk_5_63 : Cond.code ⟨"WakeLetModel", "kind", "(I)I"⟩ prog_9_method_68_code 2 (some FieldType.int) ∈ gw := gw_5 (List.mem_of_getElem? (i := 63) rfl) rfl
theorem gk_5_64 : Cond.methodLink "WakeLetLaw" 133 ⟨"WakeLetModel", "as", "(II)I"⟩ ∈ gw := gw_5 (List.mem_of_getElem? (i := 64) rfl) rfl
theorem gk_5_65 : Cond.instanceMethod ⟨"WakeLetModel", "as", "(II)I"⟩ ∈ gw := gw_5 (List.mem_of_getElem? (i := 65) rfl) rfl
theorem gk_5_66 : Cond.selects "WakeLetModel" ⟨"WakeLetModel", "as", "(II)I"⟩ ⟨"WakeLetModel", "as", "(II)I"⟩ ∈ gw := gw_5 (List.mem_of_getElem? (i := 66) rfl) rfl
theorem gk_5_67 : Cond.code ⟨"WakeLetModel", "as", "(II)I"⟩ prog_9_method_69_code 5 (some FieldType.int) ∈ gw := gw_5 (List.mem_of_getElem? (i := 67) rfl) rfl
theorem gk_5_68 : Cond.methodLink "WakeLetLaw" 137 ⟨"WakeLetModel", "ask", "(II)I"⟩ ∈ gw := gw_5 (List.mem_of_getElem? (i := 68) rfl) rfl
theorem gk_5_69 : Cond.instanceMethod ⟨"WakeLetModel", "ask", "(II)I"⟩ ∈ gw := gw_5 (List.mem_of_getElem? (i := 69) rfl) rfl
theorem gk_5_70 : Cond.selects "WakeLetModel" ⟨"WakeLetModel", "ask", "(II)I"⟩ ⟨"WakeLetModel", "ask", "(II)I"⟩ ∈ gw := gw_5 (List.mem_of_getElem? (i := 70) rfl) rfl
theorem gk_5_71 : Cond.code ⟨"WakeLetModel", "ask", "(II)I"⟩ prog_9_method_77_code 3 (some FieldType.int) ∈ gw := gw_5 (List.mem_of_getElem? (i := 71) rfl) rfl
theorem gk_5_72 : Cond.methodLink "WakeLetModel" 247 ⟨"WakeLetModel", "size", "(I)I"⟩ ∈ gw := gw_5 (List.mem_of_getElem? (i := 72) rfl) rfl
theorem gk_5_74 : Cond.instanceMethod ⟨"WakeLetModel", "size", "(I)I"⟩ ∈ gw := gw_5 (List.mem_of_getElem? (i := 74) rfl) rfl
theorem gk_5_75 : Cond.code ⟨"WakeLetModel", "size", "(I)I"⟩ prog_9_method_76_code 3 (some FieldType.int) ∈ gw := gw_5 (List.mem_of_getElem? (i := 75) rfl) rfl
theorem gk_5_76 : Cond.methodLink "WakeLetModel" 228 ⟨"WakeLetModel", "leaves", "(I)V"⟩ ∈ gw := gw_5 (List.mem_of_getElem? (i := 76) rfl) rfl
theorem gk_5_78 : Cond.instanceMethod ⟨"WakeLetModel", "leaves", "(I)V"⟩ ∈ gw := gw_5 (List.mem_of_getElem? (i := 78) rfl) rfl
theorem gk_5_79 : Cond.code ⟨"WakeLetModel", "leaves", "(I)V"⟩ prog_9_method_70_code 2 none ∈ gw := gw_5 (List.mem_of_getElem? (i := 79) rfl) rfl
theorem gk_5_80 : Cond.methodLink "WakeLetModel" 244 ⟨"WakeLetModel", "sizeOwl", "(I)I"⟩ ∈ gw := gw_5 (List.mem_of_getElem? (i := 80) rfl) rfl
theorem gk_5_82 : Cond.instanceMethod ⟨"WakeLetModel", "sizeOwl", "(I)I"⟩ ∈ gw := gw_5 (List.mem_of_getElem? (i := 82) rfl) rfl
theorem gk_5_83 : Cond.code ⟨"WakeLetModel", "sizeOwl", "(I)I"⟩ prog_9_method_75_code 2 (some FieldType.int) ∈ gw := gw_5 (List.mem_of_getElem? (i := 83) rfl) rfl
theorem gk_5_84 : Cond.methodLink "WakeLetModel" 241 ⟨"WakeLetModel", "mark", "(I)I"⟩ ∈ gw := gw_5 (List.mem_of_getElem? (i := 84) rfl) rfl
theorem gk_5_86 : Cond.instanceMethod ⟨"WakeLetModel", "mark", "(I)I"⟩ ∈ gw := gw_5 (List.mem_of_getElem? (i := 86) rfl) rfl
theorem gk_5_87 : Cond.code ⟨"WakeLetModel", "mark", "(I)I"⟩ prog_9_method_74_code 3 (some FieldType.int) ∈ gw := gw_5 (List.mem_of_getElem? (i := 87) rfl) rfl
theorem gk_5_88 : Cond.methodLink "WakeLetModel" 234 ⟨"WakeLetModel", "markOwl", "(I)I"⟩ ∈ gw := gw_5 (List.mem_of_getElem? (i := 88) rfl) rfl
theorem gk_5_90 : Cond.instanceMethod ⟨"WakeLetModel", "markOwl", "(I)I"⟩ ∈ gw := gw_5 (List.mem_of_getElem? (i := 90) rfl) rfl
theorem gk_5_91 : Cond.code ⟨"WakeLetModel", "markOwl", "(I)I"⟩ prog_9_method_72_code 2 (some FieldType.int) ∈ gw := gw_5 (List.mem_of_getElem? (i := 91) rfl) rfl
theorem gk_5_92 : Cond.methodLink "WakeLetModel" 231 ⟨"WakeLetModel", "markLent", "(I)I"⟩ ∈ gw := gw_5 (List.mem_of_getElem? (i := 92) rfl) rfl
theorem gk_5_94 : Cond.instanceMethod ⟨"WakeLetModel", "markLent", "(I)I"⟩ ∈ gw := gw_5 (List.mem_of_getElem? (i := 94) rfl) rfl
theorem gk_5_95 : Cond.code ⟨"WakeLetModel", "markLent", "(I)I"⟩ prog_9_method_71_code 2 (some FieldType.int) ∈ gw := gw_5 (List.mem_of_getElem? (i := 95) rfl) rfl
theorem gk_5_96 : Cond.methodLink "WakeLetModel" 237 ⟨"WakeLetModel", "sizeGuard", "(IZ)I"⟩ ∈ gw := gw_5 (List.mem_of_getElem? (i := 96) rfl) rfl
theorem gk_5_98 : Cond.instanceMethod ⟨"WakeLetModel", "sizeGuard", "(IZ)I"⟩ ∈ gw := gw_5 (List.mem_of_getElem? (i := 98) rfl) rfl
theorem gk_5_99 : Cond.code ⟨"WakeLetModel", "sizeGuard", "(IZ)I"⟩ prog_9_method_73_code 4 (some FieldType.int) ∈ gw := gw_5 (List.mem_of_getElem? (i := 99) rfl) rfl
theorem gk_5_100 : Cond.methodLink "WakeLetLaw" 141 ⟨"WakeLetModel", "trace", "(I)I"⟩ ∈ gw := gw_5 (List.mem_of_getElem? (i := 100) rfl) rfl
theorem gk_5_101 : Cond.instanceMethod ⟨"WakeLetModel", "trace", "(I)I"⟩ ∈ gw := gw_5 (List.mem_of_getElem? (i := 101) rfl) rfl
theorem gk_5_102 : Cond.selects "WakeLetModel" ⟨"WakeLetModel", "trace", "(I)I"⟩ ⟨"WakeLetModel", "trace", "(I)I"⟩ ∈ gw := gw_5 (List.mem_of_getElem? (i := 102) rfl) rfl
theorem gk_5_103 : Cond.code ⟨"WakeLetModel", "trace", "(I)I"⟩ prog_9_method_78_code 2 (some FieldType.int) ∈ gw := gw_5 (List.mem_of_getElem? (i := 103) rfl) rfl
theorem gk_5_104 : Cond.methodLink "WakeLetLaw" 145 ⟨"WakeLetModel", "count", "(I)I"⟩ ∈ gw := gw_5 (List.mem_of_getElem? (i := 104) rfl) rfl
theorem gk_5_105 : Cond.instanceMethod ⟨"WakeLetModel", "count", "(I)I"⟩ ∈ gw := gw_5 (List.mem_of_getElem? (i := 105) rfl) rfl
theorem gk_5_106 : Cond.selects "WakeLetModel" ⟨"WakeLetModel", "count", "(I)I"⟩ ⟨"WakeLetModel", "count", "(I)I"⟩ ∈ gw := gw_5 (List.mem_of_getElem? (i := 106) rfl) rfl
theorem gk_5_107 : Cond.code ⟨"WakeLetModel", "count", "(I)I"⟩ prog_9_method_80_code 4 (some FieldType.int) ∈ gw := gw_5 (List.mem_of_getElem? (i := 107) rfl) rfl
theorem gk_5_108 : Cond.methodLink "WakeLetModel" 250 ⟨"WakeLetModel", "earnedOfAll", "()I"⟩ ∈ gw := gw_5 (List.mem_of_getElem? (i := 108) rfl) rfl
theorem gk_5_110 : Cond.instanceMethod ⟨"WakeLetModel", "earnedOfAll", "()I"⟩ ∈ gw := gw_5 (List.mem_of_getElem? (i := 110) rfl) rfl
theorem gk_5_111 : Cond.code ⟨"WakeLetModel", "earnedOfAll", "()I"⟩ prog_9_method_79_code 3 (some FieldType.int) ∈ gw := gw_5 (List.mem_of_getElem? (i := 111) rfl) rfl
theorem gk_5_112 : Cond.methodLink "WakeLetLaw" 149 ⟨"WakeLetModel", "status", "()I"⟩ ∈ gw := gw_5 (List.mem_of_getElem? (i := 112) rfl) rfl
theorem gk_5_113 : Cond.instanceMethod ⟨"WakeLetModel", "status", "()I"⟩ ∈ gw := gw_5 (List.mem_of_getElem? (i := 113) rfl) rfl
theorem gk_5_114 : Cond.selects "WakeLetModel" ⟨"WakeLetModel", "status", "()I"⟩ ⟨"WakeLetModel", "status", "()I"⟩ ∈ gw := gw_5 (List.mem_of_getElem? (i := 114) rfl) rfl
theorem gk_5_115 : Cond.code ⟨"WakeLetModel", "status", "()I"⟩ prog_9_method_81_code 1 (some FieldType.int) ∈ gw := gw_5 (List.mem_of_getElem? (i := 115) rfl) rfl
end
section
/-- a walk's fixed part: program, launch, environment, room, start, method, arguments, stack below, method, code, cells, slots -/
abbrev FX : Type := Program × Launch × Env × Room × State × MethodId × Array Value × List Frame × Method × Code × Nat × Nat
abbrev fxS (F : FX) : State := F.2.2.2.2.1
abbrev fxM (F : FX) : MethodId := F.2.2.2.2.2.1
abbrev fxR (F : FX) : Room := F.2.2.2.1
def V (F : FX) (Q : State → Prop) (H : Heap) (locs : List Loc) (pc : Nat) (ls : Array Slot) (st : List Value) : Prop :=
  W F.1 F.2.1 F.2.2.1 F.2.2.2.1 F.2.2.2.2.1 F.2.2.2.2.2.1 F.2.2.2.2.2.2.1 F.2.2.2.2.2.2.2.1 F.2.2.2.2.2.2.2.2.1 F.2.2.2.2.2.2.2.2.2.1 H locs F.2.2.2.2.2.2.2.2.2.2.1 F.2.2.2.2.2.2.2.2.2.2.2 Q (F0 F.2.2.2.2.2.1 pc ls st)
def Cx (F : FX) (cc : ByteArray) (nL : Nat) (own : String) (D : va_G) (tys : List (ClassId × FieldType)) : Prop :=
  CallFix F.1 F.2.2.2.2.2.1 F.2.2.2.2.2.2.2.2.2.1 cc nL F.2.2.2.2.1 F.2.2.2.2.2.2.1 gw own ∧ va_K D vwCl tys F.2.2.2.2.1
def HH (F : FX) (D : va_G) (A : Nat → Prop) (ws : va_W) (H : Heap) (locs : List Loc) : Prop := va_P D vwCl ws H ∧ va_D A ws ∧ va_S A (fxS F).heap H locs
section VV
variable {F : FX} {Q : State → Prop} {H : Heap} {locs : List Loc} {pc : Nat} {ls : Array Slot} {rest : List Value} {cc : ByteArray} {nL : Nat} {own : String} {D : va_G} {tys : List (ClassId × FieldType)} {A : Nat → Prop} {ws : va_W} {a : Nat}

theorem v_iconst (X : Cx F cc nL own D tys) {n : Int} {v : Int32} (d : decode cc pc = .ok (.iconst n, 1)) (hv : Int32.ofInt n = v) (k : V F Q H locs (pc + 1) ls (.int v :: rest)) : V F Q H locs (pc) ls (rest) := lv_iconst X.1.1 X.1.2.1 d hv k
theorem v_bipush (X : Cx F cc nL own D tys) {n : Int} {v : Int32} (d : decode cc pc = .ok (.bipush n, 2)) (hv : (Int8.ofInt n).toInt32 = v) (k : V F Q H locs (pc + 2) ls (.int v :: rest)) : V F Q H locs (pc) ls (rest) := lv_bipush X.1.1 X.1.2.1 d hv k
theorem v_sipush (X : Cx F cc nL own D tys) {n : Int} {v : Int32} (d : decode cc pc = .ok (.sipush n, 3)) (hv : (Int16.ofInt n).toInt32 = v) (k : V F Q H locs (pc + 3) ls (.int v :: rest)) : V F Q H locs (pc) ls (rest) := lv_sipush X.1.1 X.1.2.1 d hv k
theorem v_lconst (X : Cx F cc nL own D tys) {n : Fin 2} {v : Int64} (d : decode cc pc = .ok (.lconst n, 1)) (hv : Int64.ofNat (n : Nat) = v) (k : V F Q H locs (pc + 1) ls (.long v :: rest)) : V F Q H locs (pc) ls (rest) := lv_lconst X.1.1 X.1.2.1 d hv k
theorem v_iload_n (X : Cx F cc nL own D tys) {k : Fin 4} {i : Nat} {x : Int32} (d : decode cc pc = .ok (.iload_n k, 1)) (hi : (k : Nat) = i) (hl : ls[i]? = some (.val (.int x))) (k : V F Q H locs (pc + 1) ls (.int x :: rest)) : V F Q H locs (pc) ls (rest) := lv_iload_n X.1.1 X.1.2.1 d hi hl k
theorem v_iload (X : Cx F cc nL own D tys) {i : Nat} {x : Int32} (d : decode cc pc = .ok (.iload i, 2)) (hl : ls[i]? = some (.val (.int x))) (k : V F Q H locs (pc + 2) ls (.int x :: rest)) : V F Q H locs (pc) ls (rest) := lv_iload X.1.1 X.1.2.1 d hl k
theorem v_lload_n (X : Cx F cc nL own D tys) {k : Fin 4} {i : Nat} {x : Int64} (d : decode cc pc = .ok (.lload_n k, 1)) (hi : (k : Nat) = i) (hl : ls[i]? = some (.val (.long x))) (k : V F Q H locs (pc + 1) ls (.long x :: rest)) : V F Q H locs (pc) ls (rest) := lv_lload_n X.1.1 X.1.2.1 d hi hl k
theorem v_lload (X : Cx F cc nL own D tys) {i : Nat} {x : Int64} (d : decode cc pc = .ok (.lload i, 2)) (hl : ls[i]? = some (.val (.long x))) (k : V F Q H locs (pc + 2) ls (.long x :: rest)) : V F Q H locs (pc) ls (rest) := lv_lload X.1.1 X.1.2.1 d hl k
theorem v_aload_n (X : Cx F cc nL own D tys) {k : Fin 4} {i : Nat} {x : Nat} (d : decode cc pc = .ok (.aload_n k, 1)) (hi : (k : Nat) = i) (hl : ls[i]? = some (.val (.ref x))) (k : V F Q H locs (pc + 1) ls (.ref x :: rest)) : V F Q H locs (pc) ls (rest) := lv_aload_n X.1.1 X.1.2.1 d hi hl k
theorem v_aload (X : Cx F cc nL own D tys) {i : Nat} {x : Nat} (d : decode cc pc = .ok (.aload i, 2)) (hl : ls[i]? = some (.val (.ref x))) (k : V F Q H locs (pc + 2) ls (.ref x :: rest)) : V F Q H locs (pc) ls (rest) := lv_aload X.1.1 X.1.2.1 d hl k
theorem v_istore_n (X : Cx F cc nL own D tys) {k : Fin 4} {i : Nat} {x : Int32} {lv lv' : List (Nat × Value)} (d : decode cc pc = .ok (.istore_n k, 1)) (hi : (k : Nat) = i) (h : lv_has ls nL lv) (hn : i < nL) (hl : (i, Value.int x) :: lv.filter (fun q => !(q.1 == i) && !(q.1 + 1 == i && q.2.category == 2)) = lv') (kk : ∀ ls' : Array Slot, lv_has ls' nL lv' → V F Q H locs (pc + 1) ls' rest) : V F Q H locs pc ls (.int x :: rest) := lv_istore_n X.1.1 X.1.2.1 d hi h hn hl kk
theorem v_istore (X : Cx F cc nL own D tys) {i : Nat} {x : Int32} {lv lv' : List (Nat × Value)} (d : decode cc pc = .ok (.istore i, 2)) (h : lv_has ls nL lv) (hn : i < nL) (hl : (i, Value.int x) :: lv.filter (fun q => !(q.1 == i) && !(q.1 + 1 == i && q.2.category == 2)) = lv') (kk : ∀ ls' : Array Slot, lv_has ls' nL lv' → V F Q H locs (pc + 2) ls' rest) : V F Q H locs pc ls (.int x :: rest) := lv_istore X.1.1 X.1.2.1 d h hn hl kk
theorem v_lstore_n (X : Cx F cc nL own D tys) {k : Fin 4} {i : Nat} {x : Int64} {lv lv' : List (Nat × Value)} (d : decode cc pc = .ok (.lstore_n k, 1)) (hi : (k : Nat) = i) (h : lv_has ls nL lv) (hn : i + 1 < nL) (hl : (i, Value.long x) :: lv.filter (fun q => !(q.1 == i) && (!(q.1 == i + 1) && !(q.1 + 1 == i && q.2.category == 2))) = lv') (kk : ∀ ls' : Array Slot, lv_has ls' nL lv' → V F Q H locs (pc + 1) ls' rest) : V F Q H locs pc ls (.long x :: rest) := lv_lstore_n X.1.1 X.1.2.1 d hi h hn hl kk
theorem v_lstore (X : Cx F cc nL own D tys) {i : Nat} {x : Int64} {lv lv' : List (Nat × Value)} (d : decode cc pc = .ok (.lstore i, 2)) (h : lv_has ls nL lv) (hn : i + 1 < nL) (hl : (i, Value.long x) :: lv.filter (fun q => !(q.1 == i) && (!(q.1 == i + 1) && !(q.1 + 1 == i && q.2.category == 2))) = lv') (kk : ∀ ls' : Array Slot, lv_has ls' nL lv' → V F Q H locs (pc + 2) ls' rest) : V F Q H locs pc ls (.long x :: rest) := lv_lstore X.1.1 X.1.2.1 d h hn hl kk
theorem v_astore_n (X : Cx F cc nL own D tys) {k : Fin 4} {i : Nat} {x : Nat} {lv lv' : List (Nat × Value)} (d : decode cc pc = .ok (.astore_n k, 1)) (hi : (k : Nat) = i) (h : lv_has ls nL lv) (hn : i < nL) (hl : (i, Value.ref x) :: lv.filter (fun q => !(q.1 == i) && !(q.1 + 1 == i && q.2.category == 2)) = lv') (kk : ∀ ls' : Array Slot, lv_has ls' nL lv' → V F Q H locs (pc + 1) ls' rest) : V F Q H locs pc ls (.ref x :: rest) := lv_astore_n X.1.1 X.1.2.1 d hi h hn hl kk
theorem v_astore (X : Cx F cc nL own D tys) {i : Nat} {x : Nat} {lv lv' : List (Nat × Value)} (d : decode cc pc = .ok (.astore i, 2)) (h : lv_has ls nL lv) (hn : i < nL) (hl : (i, Value.ref x) :: lv.filter (fun q => !(q.1 == i) && !(q.1 + 1 == i && q.2.category == 2)) = lv') (kk : ∀ ls' : Array Slot, lv_has ls' nL lv' → V F Q H locs (pc + 2) ls' rest) : V F Q H locs pc ls (.ref x :: rest) := lv_astore X.1.1 X.1.2.1 d h hn hl kk
theorem v_iinc (X : Cx F cc nL own D tys) {i k : Nat} {n : Int} {x v : Int32} {lv lv' : List (Nat × Value)} (d : decode cc pc = .ok (.iinc i n, 3)) (h : lv_has ls nL lv) (hk : lv[k]? = some (i, .int x)) (hv : x + Int32.ofInt n = v) (hn : i < nL) (hl : (i, Value.int v) :: lv.filter (fun q => !(q.1 == i) && !(q.1 + 1 == i && q.2.category == 2)) = lv') (kk : ∀ ls' : Array Slot, lv_has ls' nL lv' → V F Q H locs (pc + 3) ls' rest) : V F Q H locs pc ls rest := lv_iinc X.1.1 X.1.2.1 d h hk hv hn hl kk
theorem v_iadd (X : Cx F cc nL own D tys) {x y : Int32} (d : decode cc pc = .ok (.iadd, 1)) (k : V F Q H locs (pc + 1) ls (.int (x + y) :: rest)) : V F Q H locs (pc) ls (.int y :: .int x :: rest) := lv_iadd X.1.1 X.1.2.1 d k
theorem v_isub (X : Cx F cc nL own D tys) {x y : Int32} (d : decode cc pc = .ok (.isub, 1)) (k : V F Q H locs (pc + 1) ls (.int (x - y) :: rest)) : V F Q H locs (pc) ls (.int y :: .int x :: rest) := lv_isub X.1.1 X.1.2.1 d k
theorem v_imul (X : Cx F cc nL own D tys) {x y : Int32} (d : decode cc pc = .ok (.imul, 1)) (k : V F Q H locs (pc + 1) ls (.int (x * y) :: rest)) : V F Q H locs (pc) ls (.int y :: .int x :: rest) := lv_imul X.1.1 X.1.2.1 d k
theorem v_iand (X : Cx F cc nL own D tys) {x y : Int32} (d : decode cc pc = .ok (.iand, 1)) (k : V F Q H locs (pc + 1) ls (.int (x &&& y) :: rest)) : V F Q H locs (pc) ls (.int y :: .int x :: rest) := lv_iand X.1.1 X.1.2.1 d k
theorem v_ior (X : Cx F cc nL own D tys) {x y : Int32} (d : decode cc pc = .ok (.ior, 1)) (k : V F Q H locs (pc + 1) ls (.int (x ||| y) :: rest)) : V F Q H locs (pc) ls (.int y :: .int x :: rest) := lv_ior X.1.1 X.1.2.1 d k
theorem v_ixor (X : Cx F cc nL own D tys) {x y : Int32} (d : decode cc pc = .ok (.ixor, 1)) (k : V F Q H locs (pc + 1) ls (.int (x ^^^ y) :: rest)) : V F Q H locs (pc) ls (.int y :: .int x :: rest) := lv_ixor X.1.1 X.1.2.1 d k
theorem v_idiv (X : Cx F cc nL own D tys) {x y : Int32} (d : decode cc pc = .ok (.idiv, 1)) (hne : ¬ y = 0) (k : V F Q H locs (pc + 1) ls (.int (x / y) :: rest)) : V F Q H locs (pc) ls (.int y :: .int x :: rest) := lv_idiv X.1.1 X.1.2.1 d hne k
theorem v_irem (X : Cx F cc nL own D tys) {x y : Int32} (d : decode cc pc = .ok (.irem, 1)) (hne : ¬ y = 0) (k : V F Q H locs (pc + 1) ls (.int (x - x / y * y) :: rest)) : V F Q H locs (pc) ls (.int y :: .int x :: rest) := lv_irem X.1.1 X.1.2.1 d hne k
theorem v_ineg (X : Cx F cc nL own D tys) {x : Int32} (d : decode cc pc = .ok (.ineg, 1)) (k : V F Q H locs (pc + 1) ls (.int (-x) :: rest)) : V F Q H locs (pc) ls (.int x :: rest) := lv_ineg X.1.1 X.1.2.1 d k
theorem v_ladd (X : Cx F cc nL own D tys) {x y : Int64} (d : decode cc pc = .ok (.ladd, 1)) (k : V F Q H locs (pc + 1) ls (.long (x + y) :: rest)) : V F Q H locs (pc) ls (.long y :: .long x :: rest) := lv_ladd X.1.1 X.1.2.1 d k
theorem v_lmul (X : Cx F cc nL own D tys) {x y : Int64} (d : decode cc pc = .ok (.lmul, 1)) (k : V F Q H locs (pc + 1) ls (.long (x * y) :: rest)) : V F Q H locs (pc) ls (.long y :: .long x :: rest) := lv_lmul X.1.1 X.1.2.1 d k
theorem v_lrem (X : Cx F cc nL own D tys) {x y : Int64} (d : decode cc pc = .ok (.lrem, 1)) (hne : ¬ y = 0) (k : V F Q H locs (pc + 1) ls (.long (x - x / y * y) :: rest)) : V F Q H locs (pc) ls (.long y :: .long x :: rest) := lv_lrem X.1.1 X.1.2.1 d hne k
theorem v_ishl (X : Cx F cc nL own D tys) {x y : Int32} (d : decode cc pc = .ok (.ishl, 1)) (k : V F Q H locs (pc + 1) ls (.int (x <<< (y &&& 31)) :: rest)) : V F Q H locs (pc) ls (.int y :: .int x :: rest) := lv_ishl X.1.1 X.1.2.1 d k
theorem v_ishr (X : Cx F cc nL own D tys) {x y : Int32} (d : decode cc pc = .ok (.ishr, 1)) (k : V F Q H locs (pc + 1) ls (.int (x >>> (y &&& 31)) :: rest)) : V F Q H locs (pc) ls (.int y :: .int x :: rest) := lv_ishr X.1.1 X.1.2.1 d k
theorem v_i2l (X : Cx F cc nL own D tys) {x : Int32} {v : Int64} (d : decode cc pc = .ok (.i2l, 1)) (hv : x.toInt64 = v) (k : V F Q H locs (pc + 1) ls (.long v :: rest)) : V F Q H locs (pc) ls (.int x :: rest) := lv_i2l X.1.1 X.1.2.1 d hv k
theorem v_l2i (X : Cx F cc nL own D tys) {x : Int64} {v : Int32} (d : decode cc pc = .ok (.l2i, 1)) (hv : x.toInt32 = v) (k : V F Q H locs (pc + 1) ls (.int v :: rest)) : V F Q H locs (pc) ls (.long x :: rest) := lv_l2i X.1.1 X.1.2.1 d hv k
theorem v_i2b (X : Cx F cc nL own D tys) {x v : Int32} (d : decode cc pc = .ok (.i2b, 1)) (hv : x.toInt8.toInt32 = v) (k : V F Q H locs (pc + 1) ls (.int v :: rest)) : V F Q H locs (pc) ls (.int x :: rest) := lv_i2b X.1.1 X.1.2.1 d hv k
theorem v_i2s (X : Cx F cc nL own D tys) {x v : Int32} (d : decode cc pc = .ok (.i2s, 1)) (hv : x.toInt16.toInt32 = v) (k : V F Q H locs (pc + 1) ls (.int v :: rest)) : V F Q H locs (pc) ls (.int x :: rest) := lv_i2s X.1.1 X.1.2.1 d hv k
theorem v_iushr (X : Cx F cc nL own D tys) {x y v : Int32} (d : decode cc pc = .ok (.iushr, 1)) (hv : (x.toUInt32 >>> (y.toUInt32 &&& Int32.toUInt32 31)).toInt32 = v) (k : V F Q H locs (pc + 1) ls (.int v :: rest)) : V F Q H locs (pc) ls (.int y :: .int x :: rest) := lv_iushr X.1.1 X.1.2.1 d hv k
theorem v_dup (X : Cx F cc nL own D tys) {va : Value} (d : decode cc pc = .ok (.dup, 1)) (hva : va.category = 1) (k : V F Q H locs (pc + 1) ls (va :: va :: rest)) : V F Q H locs (pc) ls (va :: rest) := lv_dup X.1.1 X.1.2.1 d hva k
theorem v_pop (X : Cx F cc nL own D tys) {va : Value} (d : decode cc pc = .ok (.pop, 1)) (hva : va.category = 1) (k : V F Q H locs (pc + 1) ls (rest)) : V F Q H locs (pc) ls (va :: rest) := lv_pop X.1.1 X.1.2.1 d hva k
theorem v_dup2_11 (X : Cx F cc nL own D tys) {va vb : Value} (d : decode cc pc = .ok (.dup2, 1)) (hva : va.category = 1) (hvb : vb.category = 1) (k : V F Q H locs (pc + 1) ls (va :: vb :: va :: vb :: rest)) : V F Q H locs (pc) ls (va :: vb :: rest) := lv_dup2_11 X.1.1 X.1.2.1 d hva hvb k
theorem v_lcmp (X : Cx F cc nL own D tys) {x y : Int64} (d : decode cc pc = .ok (.lcmp, 1)) (k : V F Q H locs (pc + 1) ls (.int (lg_cmp x y) :: rest)) : V F Q H locs (pc) ls (.long y :: .long x :: rest) := W.lcmp X.1.1 X.1.2.1 d k
theorem v_goto (X : Cx F cc nL own D tys) {off : Int} {tgt : Nat} (d : decode cc pc = .ok (.goto off, 3)) (ht : (pc : Int) + off = (tgt : Int)) (k : V F Q H locs tgt ls rest) : V F Q H locs pc ls rest := lv_goto X.1.1 X.1.2.1 d ht k
theorem v_if_eq (X : Cx F cc nL own D tys) {x : Int32} {off : Int} {tgt : Nat} (d : decode cc pc = .ok (.ifCond .eq off, 3)) (ht : (pc : Int) + off = (tgt : Int)) (kt : x = 0 → V F Q H locs tgt ls rest) (kf : ¬ x = 0 → V F Q H locs (pc + 3) ls rest) : V F Q H locs pc ls (.int x :: rest) := lv_if_eq X.1.1 X.1.2.1 d ht kt kf
theorem v_icmp_eq (X : Cx F cc nL own D tys) {x y : Int32} {off : Int} {tgt : Nat} (d : decode cc pc = .ok (.if_icmp .eq off, 3)) (ht : (pc : Int) + off = (tgt : Int)) (kt : x = y → V F Q H locs tgt ls rest) (kf : ¬ x = y → V F Q H locs (pc + 3) ls rest) : V F Q H locs pc ls (.int y :: .int x :: rest) := lv_icmp_eq X.1.1 X.1.2.1 d ht kt kf
theorem v_if_ne (X : Cx F cc nL own D tys) {x : Int32} {off : Int} {tgt : Nat} (d : decode cc pc = .ok (.ifCond .ne off, 3)) (ht : (pc : Int) + off = (tgt : Int)) (kt : ¬ x = 0 → V F Q H locs tgt ls rest) (kf : x = 0 → V F Q H locs (pc + 3) ls rest) : V F Q H locs pc ls (.int x :: rest) := lv_if_ne X.1.1 X.1.2.1 d ht kt kf
theorem v_icmp_ne (X : Cx F cc nL own D tys) {x y : Int32} {off : Int} {tgt : Nat} (d : decode cc pc = .ok (.if_icmp .ne off, 3)) (ht : (pc : Int) + off = (tgt : Int)) (kt : ¬ x = y → V F Q H locs tgt ls rest) (kf : x = y → V F Q H locs (pc + 3) ls rest) : V F Q H locs pc ls (.int y :: .int x :: rest) := lv_icmp_ne X.1.1 X.1.2.1 d ht kt kf
theorem v_if_lt (X : Cx F cc nL own D tys) {x : Int32} {off : Int} {tgt : Nat} (d : decode cc pc = .ok (.ifCond .lt off, 3)) (ht : (pc : Int) + off = (tgt : Int)) (kt : x < 0 → V F Q H locs tgt ls rest) (kf : ¬ x < 0 → V F Q H locs (pc + 3) ls rest) : V F Q H locs pc ls (.int x :: rest) := lv_if_lt X.1.1 X.1.2.1 d ht kt kf
theorem v_icmp_lt (X : Cx F cc nL own D tys) {x y : Int32} {off : Int} {tgt : Nat} (d : decode cc pc = .ok (.if_icmp .lt off, 3)) (ht : (pc : Int) + off = (tgt : Int)) (kt : x < y → V F Q H locs tgt ls rest) (kf : ¬ x < y → V F Q H locs (pc + 3) ls rest) : V F Q H locs pc ls (.int y :: .int x :: rest) := lv_icmp_lt X.1.1 X.1.2.1 d ht kt kf
theorem v_if_ge (X : Cx F cc nL own D tys) {x : Int32} {off : Int} {tgt : Nat} (d : decode cc pc = .ok (.ifCond .ge off, 3)) (ht : (pc : Int) + off = (tgt : Int)) (kt : 0 ≤ x → V F Q H locs tgt ls rest) (kf : ¬ 0 ≤ x → V F Q H locs (pc + 3) ls rest) : V F Q H locs pc ls (.int x :: rest) := lv_if_ge X.1.1 X.1.2.1 d ht kt kf
theorem v_icmp_ge (X : Cx F cc nL own D tys) {x y : Int32} {off : Int} {tgt : Nat} (d : decode cc pc = .ok (.if_icmp .ge off, 3)) (ht : (pc : Int) + off = (tgt : Int)) (kt : y ≤ x → V F Q H locs tgt ls rest) (kf : ¬ y ≤ x → V F Q H locs (pc + 3) ls rest) : V F Q H locs pc ls (.int y :: .int x :: rest) := lv_icmp_ge X.1.1 X.1.2.1 d ht kt kf
theorem v_if_gt (X : Cx F cc nL own D tys) {x : Int32} {off : Int} {tgt : Nat} (d : decode cc pc = .ok (.ifCond .gt off, 3)) (ht : (pc : Int) + off = (tgt : Int)) (kt : 0 < x → V F Q H locs tgt ls rest) (kf : ¬ 0 < x → V F Q H locs (pc + 3) ls rest) : V F Q H locs pc ls (.int x :: rest) := lv_if_gt X.1.1 X.1.2.1 d ht kt kf
theorem v_icmp_gt (X : Cx F cc nL own D tys) {x y : Int32} {off : Int} {tgt : Nat} (d : decode cc pc = .ok (.if_icmp .gt off, 3)) (ht : (pc : Int) + off = (tgt : Int)) (kt : y < x → V F Q H locs tgt ls rest) (kf : ¬ y < x → V F Q H locs (pc + 3) ls rest) : V F Q H locs pc ls (.int y :: .int x :: rest) := lv_icmp_gt X.1.1 X.1.2.1 d ht kt kf
theorem v_if_le (X : Cx F cc nL own D tys) {x : Int32} {off : Int} {tgt : Nat} (d : decode cc pc = .ok (.ifCond .le off, 3)) (ht : (pc : Int) + off = (tgt : Int)) (kt : x ≤ 0 → V F Q H locs tgt ls rest) (kf : ¬ x ≤ 0 → V F Q H locs (pc + 3) ls rest) : V F Q H locs pc ls (.int x :: rest) := lv_if_le X.1.1 X.1.2.1 d ht kt kf
theorem v_icmp_le (X : Cx F cc nL own D tys) {x y : Int32} {off : Int} {tgt : Nat} (d : decode cc pc = .ok (.if_icmp .le off, 3)) (ht : (pc : Int) + off = (tgt : Int)) (kt : x ≤ y → V F Q H locs tgt ls rest) (kf : ¬ x ≤ y → V F Q H locs (pc + 3) ls rest) : V F Q H locs pc ls (.int y :: .int x :: rest) := lv_icmp_le X.1.1 X.1.2.1 d ht kt kf
theorem v_ldc (X : Cx F cc nL own D tys) {index : Nat} {v : Int32} (kn : Cond.constant own index v ∈ gw) (d : decode cc pc = .ok (.ldc index, 2)) (k : V F Q H locs (pc + 2) ls (.int v :: rest)) : V F Q H locs pc ls rest := lv_ldc X.1.1 X.1.2.1 X.1.2.2.2.1 (X.1.2.2.2.2 _ kn) d k
theorem v_ldcw (X : Cx F cc nL own D tys) {index : Nat} {v : Int32} (kn : Cond.constant own index v ∈ gw) (d : decode cc pc = .ok (.ldc_w index, 3)) (k : V F Q H locs (pc + 3) ls (.int v :: rest)) : V F Q H locs pc ls rest := lv_ldcw X.1.1 X.1.2.1 X.1.2.2.2.1 (X.1.2.2.2.2 _ kn) d k
theorem v_ldc2 (X : Cx F cc nL own D tys) {index : Nat} {v : Int64} (kn : Cond.constantLong own index v ∈ gw) (d : decode cc pc = .ok (.ldc2_w index, 3)) (k : V F Q H locs (pc + 3) ls (.long v :: rest)) : V F Q H locs pc ls rest := lv_ldc2 X.1.1 X.1.2.1 X.1.2.2.2.1 (X.1.2.2.2.2 _ kn) d k
theorem v_tableIn (X : Cx F cc nL own D tys) {dflt lo hi : Int} {offs : Array Int} {len : Nat} {x : Int32} {off : Int} {tgt : Nat} (d : decode cc pc = .ok (.tableswitch dflt lo hi offs, len)) (h1 : ¬ x.toInt < lo) (h2 : ¬ hi < x.toInt) (ho : offs[(x.toInt - lo).toNat]? = some off) (ht : (pc : Int) + off = (tgt : Int)) (k : V F Q H locs tgt ls rest) : V F Q H locs pc ls (.int x :: rest) := lv_tableIn X.1.1 X.1.2.1 d h1 h2 ho ht k
theorem v_tableOut (X : Cx F cc nL own D tys) {dflt lo hi : Int} {offs : Array Int} {len : Nat} {x : Int32} {tgt : Nat} (d : decode cc pc = .ok (.tableswitch dflt lo hi offs, len)) (h : x.toInt < lo ∨ hi < x.toInt) (ht : (pc : Int) + dflt = (tgt : Int)) (k : V F Q H locs tgt ls rest) : V F Q H locs pc ls (.int x :: rest) := lv_tableOut X.1.1 X.1.2.1 d h ht k
theorem v_lookup (X : Cx F cc nL own D tys) {dflt : Int} {ps : Array (Int × Int)} {len : Nat} {x : Int32} {off : Int} {tgt : Nat} (d : decode cc pc = .ok (.lookupswitch dflt ps, len)) (hp : (ps.toList.zip (ps.toList.drop 1)).all (fun (a, next) => a.1 < next.1) = true) (ho : Op.lookupswitch.offset ps.toList dflt x.toInt = off) (ht : (pc : Int) + off = (tgt : Int)) (k : V F Q H locs tgt ls rest) : V F Q H locs pc ls (.int x :: rest) := lv_lookup X.1.1 X.1.2.1 d hp ho ht k
/-- a field known: own's entry 'index' is field k of class ci -/
def FK (own : String) (index ci k : Nat) : Prop := ∃ (C : String) (T : u_T) (N : Nat), vwCl[ci]? = some (C, T, N) ∧ (∀ w ∈ u_ws C T N, w ∈ gw) ∧ k < N ∧ Cond.fieldLink own index (T k).1 (T k).2.1 (T k).2.2.1 ∈ gw
/-- an int field that may be written -/
def FI (own : String) (index ci k : Nat) : Prop := ∃ (C : String) (T : u_T) (N : Nat) (ty0 : Nat → FieldType), vwCl[ci]? = some (C, T, N) ∧ (∀ w ∈ u_ws C T N, w ∈ gw) ∧ k < N ∧ Cond.fieldLink own index (T k).1 (T k).2.1 (T k).2.2.1 ∈ gw ∧ (∀ k, k < N → parseFieldDescriptor (T k).2.2.1 = some (ty0 k)) ∧ (∀ a, a < N → ∀ b, b < N → a ≠ b → (T a).2.1 ≠ (T b).2.1) ∧ (T k).2.2.2 = false ∧ parseFieldDescriptor (T k).2.2.1 = some .int
theorem v_get (X : Cx F cc nL own D tys) (hP : va_P D vwCl ws H) (q0 : Nat) {ci k index : Nat} {fs : List Value} {v : Value} (he : ws[q0]? = some (a, .inr (ci, fs))) (fk : FK own index ci k) (hv : fs[k]? = some v) (d : decode cc pc = .ok (.getfield index, 3)) (kk : V F Q H locs (pc + 3) ls (v :: rest)) : V F Q H locs pc ls (.ref a :: rest) := by
  obtain ⟨C, T, N, h1, h2, h3, h4⟩ := fk
  exact va_get X.1.1 X.1.2.1 X.1.2.2.2.2 h2 X.1.2.2.2.1 X.2 hP q0 he h1 k h3 (X.1.2.2.2.2 _ h4) (fun _ h9 => h9) hv d kk
theorem v_put (X : Cx F cc nL own D tys) (hH : HH F D A ws H locs) (q0 : Nat) {ci k index : Nat} {fs : List Value} {v : Int32} (he : ws[q0]? = some (a, .inr (ci, fs))) (fk : FI own index ci k) (hl : k < fs.length) (d : decode cc pc = .ok (.putfield index, 3)) (kk : ∀ (H1 : Heap) (locs1 : List Loc), HH F D A (ws.set q0 (a, .inr (ci, fs.set k (.int v)))) H1 locs1 → V F Q H1 locs1 (pc + 3) ls rest) : V F Q H locs pc ls (.int v :: .ref a :: rest) := by
  obtain ⟨C, T, N, ty0, h1, h2, h3, h4, h5, h6, h7, h8⟩ := fk
  exact va_put X.1.1 X.1.2.1 X.1.2.2.2.2 h2 ty0 h5 h6 X.1.2.2.2.1 X.2 hH.1 hH.2.1 hH.2.2 q0 he h1 k h3 (X.1.2.2.2.2 _ h4) (fun _ h9 => h9) h7 h8 rfl rfl hl d (fun H1 locs1 p1 p2 p3 => kk H1 locs1 ⟨p1, p2, p3⟩)
theorem v_iald (X : Cx F cc nL own D tys) (hP : va_P D vwCl ws H) (q0 t0 : Nat) {cA : ClassId} {n : Nat} {f : Nat → Int32} (ha : ws[q0]? = some (a, .inl (cA, n, .inl f))) (ht : tys[t0]? = some (cA, .int)) {i : Int32} (hin : vp_in i n) (d : decode cc pc = .ok (.iaload, 1)) (kk : V F Q H locs (pc + 1) ls (.int (f i.toNatClampNeg) :: rest)) : V F Q H locs pc ls (.int i :: .ref a :: rest) := va_iald X.1.1 X.1.2.1 X.2 hP q0 t0 ha ht hin d kk
theorem v_zald (X : Cx F cc nL own D tys) (hP : va_P D vwCl ws H) (q0 t0 : Nat) {cA : ClassId} {n : Nat} {f : Nat → Int32} (ha : ws[q0]? = some (a, .inl (cA, n, .inl f))) (ht : tys[t0]? = some (cA, .boolean)) {i : Int32} (hin : vp_in i n) (d : decode cc pc = .ok (.baload, 1)) (kk : V F Q H locs (pc + 1) ls (.int (f i.toNatClampNeg) :: rest)) : V F Q H locs pc ls (.int i :: .ref a :: rest) := va_zald X.1.1 X.1.2.1 X.2 hP q0 t0 ha ht hin d kk
theorem v_aald (X : Cx F cc nL own D tys) (hP : va_P D vwCl ws H) (q0 t0 : Nat) {cA : ClassId} {C : String} {n : Nat} {f : Nat → Option Nat} (ha : ws[q0]? = some (a, .inl (cA, n, .inr (.inr (.inr (.inr f)))))) (ht : tys[t0]? = some (cA, .object C)) {i : Int32} (hin : vp_in i n) {b : Nat} (hb : f i.toNatClampNeg = some b) (d : decode cc pc = .ok (.aaload, 1)) (kk : V F Q H locs (pc + 1) ls (.ref b :: rest)) : V F Q H locs pc ls (.int i :: .ref a :: rest) := va_aldq X.1.1 X.1.2.1 X.2 hP q0 t0 ha ht hin d (by rw [hb]; exact kk)
theorem v_alen (X : Cx F cc nL own D tys) (hP : va_P D vwCl ws H) (q0 t0 : Nat) {cA : ClassId} {x : vp_A} {ty : FieldType} {v : Int32} (ha : ws[q0]? = some (a, .inl (cA, x))) (ht : tys[t0]? = some (cA, ty)) (hv : Int32.ofNat x.1 = v) (d : decode cc pc = .ok (.arraylength, 1)) (kk : V F Q H locs (pc + 1) ls (.int v :: rest)) : V F Q H locs pc ls (.ref a :: rest) := va_alen X.1.1 X.1.2.1 X.2 hP q0 t0 ha ht hv d kk
theorem v_iast (X : Cx F cc nL own D tys) (hH : HH F D A ws H locs) (q0 t0 : Nat) {cA : ClassId} {n : Nat} {f : Nat → Int32} (ha : ws[q0]? = some (a, .inl (cA, n, .inl f))) (ht : tys[t0]? = some (cA, .int)) {i x : Int32} (hin : vp_in i n) (d : decode cc pc = .ok (.iastore, 1)) (kk : ∀ (H1 : Heap) (locs1 : List Loc), HH F D A (ws.set q0 (a, .inl (cA, n, .inl (upd f i.toNatClampNeg x)))) H1 locs1 → V F Q H1 locs1 (pc + 1) ls rest) : V F Q H locs pc ls (.int x :: .int i :: .ref a :: rest) := va_iast X.1.1 X.1.2.1 X.2 hH.1 hH.2.1 hH.2.2 q0 t0 ha ht hin d (fun H1 locs1 p1 p2 p3 => kk H1 locs1 ⟨p1, p2, p3⟩)
theorem v_zast (X : Cx F cc nL own D tys) (hH : HH F D A ws H locs) (q0 t0 : Nat) {cA : ClassId} {n : Nat} {f : Nat → Int32} (ha : ws[q0]? = some (a, .inl (cA, n, .inl f))) (ht : tys[t0]? = some (cA, .boolean)) {i x : Int32} (hin : vp_in i n) (d : decode cc pc = .ok (.bastore, 1)) (kk : ∀ (H1 : Heap) (locs1 : List Loc), HH F D A (ws.set q0 (a, .inl (cA, n, .inl (upd f i.toNatClampNeg (vp_nar .boolean x))))) H1 locs1 → V F Q H1 locs1 (pc + 1) ls rest) : V F Q H locs pc ls (.int x :: .int i :: .ref a :: rest) := va_zast X.1.1 X.1.2.1 X.2 hH.1 hH.2.1 hH.2.2 q0 t0 ha ht hin d (fun H1 locs1 p1 p2 p3 => kk H1 locs1 ⟨p1, p2, p3⟩)
/-- System.arraycopy known -/
def KA (own : String) (index : Nat) : Prop := Cond.methodLink own index arraycopyName ∈ gw ∧ Cond.native arraycopyName ∈ gw ∧ Cond.static arraycopyName ∈ gw ∧ Cond.initialized "java/lang/System" ∈ gw
theorem v_copy (X : Cx F cc nL own D tys) (hl : ls.size = nL) {index : Nat} (ka : KA own index) (hH : HH F D A ws H locs) (q0 q1 t0 : Nat) {a0 : Nat} {c0 : ClassId} {n0 n1 : Nat} {f g : Nat → Int32} (ha0 : ws[q0]? = some (a0, .inl (c0, n0, .inl f))) (ha1 : ws[q1]? = some (a, .inl (c0, n1, .inl g))) (ht0 : tys[t0]? = some (c0, .int)) {sp dp n : Int32} (hw : (¬ sp < 0 ∧ ¬ dp < 0 ∧ ¬ n < 0) ∧ sp.toNatClampNeg + n.toNatClampNeg ≤ n0 ∧ dp.toNatClampNeg + n.toNatClampNeg ≤ n1) (hR : 1 ≤ (fxR F).frames ∧ (rest.map fun v => v.category).sum + (nativeFrameWords "java/lang/System" "arraycopy" 5 + 11) ≤ (fxR F).locals) (d : decode cc pc = .ok (.invokestatic index, 3)) (kk : ∀ (H1 : Heap) (locs1 : List Loc), HH F D A (ws.set q1 (a, .inl (c0, n1, .inl (va_cpy f g sp.toNatClampNeg dp.toNatClampNeg n.toNatClampNeg)))) H1 locs1 → V F Q H1 locs1 (pc + 3) ls rest) : V F Q H locs pc ls (.int n :: .int dp :: .ref a :: .int sp :: .ref a0 :: rest) :=
  va_copyi X.1.1 X.1.2.1 (X.1.2.2.1.trans hl.symm) X.1.2.2.2.1 (X.1.2.2.2.2 _ ka.1) (X.1.2.2.2.2 _ ka.2.1) (X.1.2.2.2.2 _ ka.2.2.1) (X.1.2.2.2.2 _ ka.2.2.2) X.2 hH.1 hH.2.1 hH.2.2 q0 q1 t0 t0 ha0 ha1 ht0 ht0 rfl hw.1.1 hw.1.2.1 hw.1.2.2 hw.2.1 hw.2.2 (fun _ _ => rfl) hR.1 hR.2 d (fun H1 locs1 p1 p2 p3 => kk H1 locs1 ⟨p1, p2, p3⟩)
def KMx (own : String) (index : Nat) : Prop := Cond.methodLink own index Lib.Math.max.name ∈ gw ∧ Cond.static Lib.Math.max.name ∈ gw ∧ Cond.initialized "java/lang/Math" ∈ gw ∧ Cond.code Lib.Math.max.name Lib.Math.max.code 2 (some .int) ∈ gw
def KMn (own : String) (index : Nat) : Prop := Cond.methodLink own index Lib.Math.min.name ∈ gw ∧ Cond.static Lib.Math.min.name ∈ gw ∧ Cond.initialized "java/lang/Math" ∈ gw ∧ Cond.code Lib.Math.min.name Lib.Math.min.code 2 (some .int) ∈ gw
/-- cells and slots of the walk are within its room -/
def fxOk (F : FX) : Prop := F.2.2.2.2.2.2.2.2.2.2.1 ≤ (fxR F).cells ∧ F.2.2.2.2.2.2.2.2.2.2.2 ≤ (fxR F).slots
theorem v_mmax (X : Cx F cc nL own D tys) (hl : ls.size = nL) {index : Nat} (ka : KMx own index) (ho : fxOk F) (hR : 1 ≤ (fxR F).frames ∧ (rest.map fun v => v.category).sum + 13 ≤ (fxR F).locals) {x y : Int32} (d : decode cc pc = .ok (.invokestatic index, 3)) (kk : V F Q H locs (pc + 3) ls (.int (if x < y then y else x) :: rest)) : V F Q H locs pc ls (.int y :: .int x :: rest) :=
  va_mmax X.1.1 X.1.2.1 (X.1.2.2.1.trans hl.symm) X.1.2.2.2.1 (X.1.2.2.2.2 _ ka.1) (X.1.2.2.2.2 _ ka.2.1) (X.1.2.2.2.2 _ ka.2.2.1) (X.1.2.2.2.2 _ ka.2.2.2) hR.1 hR.2 ho.1 ho.2 d kk
theorem v_mmin (X : Cx F cc nL own D tys) (hl : ls.size = nL) {index : Nat} (ka : KMn own index) (ho : fxOk F) (hR : 1 ≤ (fxR F).frames ∧ (rest.map fun v => v.category).sum + 13 ≤ (fxR F).locals) {x y : Int32} (d : decode cc pc = .ok (.invokestatic index, 3)) (kk : V F Q H locs (pc + 3) ls (.int (if y < x then y else x) :: rest)) : V F Q H locs pc ls (.int y :: .int x :: rest) :=
  va_mmin X.1.1 X.1.2.1 (X.1.2.2.1.trans hl.symm) X.1.2.2.2.1 (X.1.2.2.2.2 _ ka.1) (X.1.2.2.2.2 _ ka.2.1) (X.1.2.2.2.2 _ ka.2.2.1) (X.1.2.2.2.2 _ ka.2.2.2) hR.1 hR.2 ho.1 ho.2 d kk
end VV
/-- a method known at a call site -/
def MKb (own : String) (idx : Nat) (y : MethodName) (b : ByteArray) (n : Nat) (ret : Option FieldType) (np : Nat) : Prop :=
  Cond.methodLink own idx y ∈ gw ∧ Cond.initialized y.cls ∈ gw ∧ Cond.code y b n ret ∈ gw ∧ y.cls ≠ "java/lang/invoke/MethodHandle" ∧ y.cls ≠ "java/lang/invoke/VarHandle" ∧ (parseMethodDescriptor y.desc).map (fun d => d.parameters.length) = some np
def MKv (own : String) (idx : Nat) (y : MethodName) (b : ByteArray) (n : Nat) (ret : Option FieldType) (np : Nat) : Prop := MKb own idx y b n ret np ∧ Cond.instanceMethod y ∈ gw ∧ Cond.selects y.cls y y ∈ gw
def MKs (own : String) (idx : Nat) (y : MethodName) (b : ByteArray) (n : Nat) (ret : Option FieldType) (np : Nat) : Prop := MKb own idx y b n ret np ∧ Cond.static y ∈ gw
theorem gw_ok {y : MethodName} {b : ByteArray} {n : Nat} {ret : Option FieldType} (hc : Cond.code y b n ret ∈ gw) : GoodIn gw (Cond.code y b n ret :: gw) := fun w hw => by
  rcases List.mem_cons.mp hw with rfl | h
  · exact ⟨hc, good_of_word (gw_good _ hc)⟩
  · exact ⟨h, good_of_word (gw_good _ h)⟩
/-- what a walk needs of its room and method -/
def FOk (F : FX) (rm : Room) (ret : Option FieldType) : Prop := F.2.2.2.1 = rm ∧ F.2.2.2.2.2.2.2.2.2.2.1 = 0 ∧ F.2.2.2.2.2.2.2.2.2.2.2 = 0 ∧ F.2.2.2.2.2.2.2.2.1.sig.returnType = ret ∧ F.2.2.2.2.2.2.2.2.1.locks = false
theorem FOk.ok {F : FX} {rm : Room} {ret : Option FieldType} (h : FOk F rm ret) : fxOk F := ⟨by rw [h.2.1]; exact Nat.zero_le _, by rw [h.2.2.1]; exact Nat.zero_le _⟩
/-- a reader's contract: the heap stays as it is -/
def RdM (l : Launch) (y : MethodName) (b : ByteArray) (n : Nat) (ret : Option FieldType) (rm : Room) (D : va_G) (tys : List (ClassId × FieldType)) (wc : va_W) (As : List Value) (post : Int32 → Prop) : Prop :=
  Met l y (Cond.code y b n ret :: gw) rm (va_Pc As (fun U => va_P D vwCl wc U.heap ∧ va_K D vwCl tys U)) (vp_Si post) 0 0 (fun _ => False)
def RQ (F : FX) (post : Int32 → Prop) : State → Prop := MQ F.2.2.2.2.2.2.2.1 (vp_Si post) F.2.2.2.2.2.2.1 F.2.2.2.2.1 F.2.2.2.2.2.2.2.2.2.2.1 F.2.2.2.2.2.2.2.2.2.2.2 (fun _ => False)
/-- a writer's contract: the cells wc become w1 u -/
def WrI {S : Type} (l : Launch) (y : MethodName) (b : ByteArray) (n : Nat) (ret : Option FieldType) (rm : Room) (D : va_G) (tys : List (ClassId × FieldType)) (wc : va_W) (As : List Value) (w1 : S → va_W) (post : Int32 → S → Prop) : Prop :=
  ∀ sz : Nat, Met l y (Cond.code y b n ret :: gw) rm (va_Pc As (fun U => U.heap.size = sz ∧ va_P D vwCl wc U.heap ∧ va_K D vwCl tys U ∧ va_D (fun _ => True) wc)) (va_Qi post (fun u t => va_P D vwCl (w1 u) t.heap ∧ va_K D vwCl tys t ∧ va_D (va_A wc sz) (w1 u)) (va_A wc sz)) 0 0 (va_A wc sz)
def WrV {S : Type} (l : Launch) (y : MethodName) (b : ByteArray) (n : Nat) (rm : Room) (D : va_G) (tys : List (ClassId × FieldType)) (wc : va_W) (As : List Value) (w1 : S → va_W) (post : S → Prop) : Prop :=
  ∀ sz : Nat, Met l y (Cond.code y b n none :: gw) rm (va_Pc As (fun U => U.heap.size = sz ∧ va_P D vwCl wc U.heap ∧ va_K D vwCl tys U ∧ va_D (fun _ => True) wc)) (va_Qv post (fun u t => va_P D vwCl (w1 u) t.heap ∧ va_K D vwCl tys t ∧ va_D (va_A wc sz) (w1 u)) (va_A wc sz)) 0 0 (va_A wc sz)
def WQI {S : Type} (F : FX) (D : va_G) (tys : List (ClassId × FieldType)) (A : Nat → Prop) (w1 : S → va_W) (post : Int32 → S → Prop) : State → Prop := MQ F.2.2.2.2.2.2.2.1 (va_Qi post (fun u t => va_P D vwCl (w1 u) t.heap ∧ va_K D vwCl tys t ∧ va_D A (w1 u)) A) F.2.2.2.2.2.2.1 F.2.2.2.2.1 F.2.2.2.2.2.2.2.2.2.2.1 F.2.2.2.2.2.2.2.2.2.2.2 A
def WQV {S : Type} (F : FX) (D : va_G) (tys : List (ClassId × FieldType)) (A : Nat → Prop) (w1 : S → va_W) (post : S → Prop) : State → Prop := MQ F.2.2.2.2.2.2.2.1 (va_Qv post (fun u t => va_P D vwCl (w1 u) t.heap ∧ va_K D vwCl tys t ∧ va_D A (w1 u)) A) F.2.2.2.2.2.2.1 F.2.2.2.2.1 F.2.2.2.2.2.2.2.2.2.2.1 F.2.2.2.2.2.2.2.2.2.2.2 A
theorem RdM.mk {l : Launch} {y : MethodName} {b : ByteArray} {n : Nat} {ret : Option FieldType} {rm : Room} {D : va_G} {tys : List (ClassId × FieldType)} {wc : va_W} {As : List Value} {post : Int32 → Prop} (hy : plainName y.cls = true) (hn : (lg_sl As).length ≤ n)
    (body : ∀ (F : FX) (ls : Array Slot), F.2.1 = l → FOk F rm ret → Cx F b n y.cls D tys → va_P D vwCl wc (fxS F).heap → lv_has ls n (lv_args 0 As) → V F (RQ F post) (fxS F).heap [] 0 ls []) : RdM l y b n ret rm D tys wc As post := by
  refine Met.ofW (cc := b) (maxL := n) (ret := ret) hy rfl ?_
  intro p e s m args below meth c s₁ B hml hv
  obtain ⟨rfl, hP, hK⟩ := hv
  rw [lg_entry_eq]
  have hts := atoms_spec (ws := Cond.code y b n ret :: gw) B.pre
  exact body (p, l, e, rm, s, m, As.toArray, below, meth, c, 0, 0) _ rfl ⟨rfl, rfl, rfl, B.returns, B.notSynchronized⟩ ⟨⟨B.exec, B.bytes, hml, findClass_of_methodNamed B.named, fun w h => hts w (List.mem_cons_of_mem _ h)⟩, hK⟩ hP (lv_entry As hn)
theorem WrI.mk {S : Type} {l : Launch} {y : MethodName} {b : ByteArray} {n : Nat} {ret : Option FieldType} {rm : Room} {D : va_G} {tys : List (ClassId × FieldType)} {wc : va_W} {As : List Value} {w1 : S → va_W} {post : Int32 → S → Prop} (hy : plainName y.cls = true) (hn : (lg_sl As).length ≤ n)
    (body : ∀ (F : FX) (ls : Array Slot) (A : Nat → Prop), F.2.1 = l → FOk F rm ret → Cx F b n y.cls D tys → HH F D A wc (fxS F).heap [] → (∀ q : Nat, (fxS F).heap.size ≤ q → A q) → lv_has ls n (lv_args 0 As) → V F (WQI F D tys A w1 post) (fxS F).heap [] 0 ls []) : WrI l y b n ret rm D tys wc As w1 post := by
  intro sz
  refine Met.ofW (cc := b) (maxL := n) (ret := ret) hy rfl ?_
  intro p e s m args below meth c s₁ B hml hv
  obtain ⟨rfl, hsz, hP, hK, hD0⟩ := hv
  rw [lg_entry_eq]
  have hts := atoms_spec (ws := Cond.code y b n ret :: gw) B.pre
  subst hsz
  exact body (p, l, e, rm, s, m, As.toArray, below, meth, c, 0, 0) _ (va_A wc s.heap.size) rfl ⟨rfl, rfl, rfl, B.returns, B.notSynchronized⟩ ⟨⟨B.exec, B.bytes, hml, findClass_of_methodNamed B.named, fun w h => hts w (List.mem_cons_of_mem _ h)⟩, hK⟩ ⟨hP, hD0.self, va_S.rf⟩ (fun q h => Or.inr h) (lv_entry As hn)
theorem WrV.mk {S : Type} {l : Launch} {y : MethodName} {b : ByteArray} {n : Nat} {rm : Room} {D : va_G} {tys : List (ClassId × FieldType)} {wc : va_W} {As : List Value} {w1 : S → va_W} {post : S → Prop} (hy : plainName y.cls = true) (hn : (lg_sl As).length ≤ n)
    (body : ∀ (F : FX) (ls : Array Slot) (A : Nat → Prop), F.2.1 = l → FOk F rm none → Cx F b n y.cls D tys → HH F D A wc (fxS F).heap [] → (∀ q : Nat, (fxS F).heap.size ≤ q → A q) → lv_has ls n (lv_args 0 As) → V F (WQV F D tys A w1 post) (fxS F).heap [] 0 ls []) : WrV l y b n rm D tys wc As w1 post := by
  intro sz
  refine Met.ofW (cc := b) (maxL := n) (ret := none) hy rfl ?_
  intro p e s m args below meth c s₁ B hml hv
  obtain ⟨rfl, hsz, hP, hK, hD0⟩ := hv
  rw [lg_entry_eq]
  have hts := atoms_spec (ws := Cond.code y b n none :: gw) B.pre
  subst hsz
  exact body (p, l, e, rm, s, m, As.toArray, below, meth, c, 0, 0) _ (va_A wc s.heap.size) rfl ⟨rfl, rfl, rfl, B.returns, B.notSynchronized⟩ ⟨⟨B.exec, B.bytes, hml, findClass_of_methodNamed B.named, fun w h => hts w (List.mem_cons_of_mem _ h)⟩, hK⟩ ⟨hP, hD0.self, va_S.rf⟩ (fun q h => Or.inr h) (lv_entry As hn)
section VC
variable {F : FX} {Q : State → Prop} {H : Heap} {locs : List Loc} {pc : Nat} {ls : Array Slot} {rest st : List Value} {cc : ByteArray} {nL : Nat} {own : String} {D : va_G} {tys : List (ClassId × FieldType)} {A : Nat → Prop} {ws : va_W} {a : Nat} {rm : Room}
theorem v_riret (X : Cx F cc nL own D tys) (hF : FOk F rm (some .int)) {post : Int32 → Prop} {v : Int32} (h : post v) (d : decode cc pc = .ok (.ireturn, 1)) : V F (RQ F post) (fxS F).heap [] pc ls [.int v] :=
  W.iret X.1.1 X.1.2.1 hF.2.2.2.1 (fun t ht _ => ⟨v, rfl, h, ht⟩) (fun _ h => by cases h) d hF.2.2.2.2
theorem v_rzret (X : Cx F cc nL own D tys) (hF : FOk F rm (some .boolean)) {post : Int32 → Prop} {v : Int32} (hn : narrow .boolean (.int v) = .int v) (h : post v) (d : decode cc pc = .ok (.ireturn, 1)) : V F (RQ F post) (fxS F).heap [] pc ls [.int v] :=
  W.zret X.1.1 X.1.2.1 hF.2.2.2.1 hn (fun t ht _ => ⟨v, rfl, h, ht⟩) (fun _ h => by cases h) d hF.2.2.2.2
theorem v_wiret {S : Type} {w1 : S → va_W} {post : Int32 → S → Prop} (X : Cx F cc nL own D tys) (hF : FOk F rm (some .int)) (u : S) (hH : HH F D A (w1 u) H locs) {v : Int32} (h : post v u) (d : decode cc pc = .ok (.ireturn, 1)) : V F (WQI F D tys A w1 post) H locs pc ls [.int v] :=
  W.iret X.1.1 X.1.2.1 hF.2.2.2.1 (fun t ht hW => ⟨⟨v, u, rfl, h, by rw [ht]; exact hH.1, va_K.moved hW.alike X.2, hH.2.1⟩, hH.2.2.F ht⟩) hH.2.2.2.2 d hF.2.2.2.2
theorem v_wzret {S : Type} {w1 : S → va_W} {post : Int32 → S → Prop} (X : Cx F cc nL own D tys) (hF : FOk F rm (some .boolean)) (u : S) (hH : HH F D A (w1 u) H locs) {v : Int32} (hn : narrow .boolean (.int v) = .int v) (h : post v u) (d : decode cc pc = .ok (.ireturn, 1)) : V F (WQI F D tys A w1 post) H locs pc ls [.int v] :=
  W.zret X.1.1 X.1.2.1 hF.2.2.2.1 hn (fun t ht hW => ⟨⟨v, u, rfl, h, by rw [ht]; exact hH.1, va_K.moved hW.alike X.2, hH.2.1⟩, hH.2.2.F ht⟩) hH.2.2.2.2 d hF.2.2.2.2
theorem v_wvret {S : Type} {w1 : S → va_W} {post : S → Prop} (X : Cx F cc nL own D tys) (hF : FOk F rm none) (u : S) (hH : HH F D A (w1 u) H locs) (h : post u) (d : decode cc pc = .ok (.return_, 1)) : V F (WQV F D tys A w1 post) H locs pc ls [] :=
  W.vret X.1.1 X.1.2.1 hF.2.2.2.1 (fun t ht hW => ⟨⟨u, rfl, h, by rw [ht]; exact hH.1, va_K.moved hW.alike X.2, hH.2.1⟩, hH.2.2.F ht⟩) hH.2.2.2.2 d (hlocks := hF.2.2.2.2)
variable {y : MethodName} {b : ByteArray} {n np idx : Nat} {ret : Option FieldType} {rm' : Room} {wc wr : va_W} {As : List Value} {ci : Nat} {fs : List Value} {T : u_T} {N : Nat}
/-- the callee's room within the caller's -/
def RmIn (rm' rm : Room) (n : Nat) : Prop := rm'.cells = 0 ∧ rm'.slots = 0 ∧ rm'.frames + 1 ≤ rm.frames ∧ 8 + (n + 11) + rm'.locals ≤ rm.locals
theorem callB_gw (X : Cx F cc nL own D tys) (mk : MKb own idx y b n ret np) (hR : RmIn rm' (fxR F) n) : CallB (fxR F) (fxS F) F.2.2.2.2.2.2.1 own idx y b n ret (Cond.code y b n ret :: gw) rm' 0 0 np :=
  callB_of np X.1.2.2.2.2 (gw_ok mk.2.2.1) rfl hR.1 hR.2.1 (X.1.2.2.2.2 _ mk.2.1) (X.1.2.2.2.2 _ mk.1) mk.2.2.2 hR.2.2
theorem rdV {post : Int32 → Prop} (X : Cx F cc nL own D tys) (mk : MKv own idx y b n ret np) (hM : RdM F.2.1 y b n ret rm' D tys wc (.ref a :: As) post) (hR : RmIn rm' (fxR F) n) (ho : fxOk F) (hP : va_P D vwCl ws H) (isC : List Nat) (hC : isC.filterMap (fun i => ws[i]?) = wc) (q0 : Nat) (he : ws[q0]? = some (a, .inr (ci, fs))) (hci : vwCl[ci]? = some (y.cls, T, N)) (hl : ls.size = nL) (hn : As.length = np) (hst : st = As.reverse ++ .ref a :: rest) (hW : (rest.map fun v => v.category).sum ≤ 8) (d : decode cc pc = .ok (.invokevirtual idx, 3)) (kk : ∀ r, post r → V F Q H locs (pc + 3) ls (.int r :: rest)) : V F Q H locs pc ls st :=
  vp_callSi (W.runV (As := As) (rest := rest) X.1 hM ⟨callB_gw X mk.1 hR, X.1.2.2.2.2 _ mk.2.1, X.1.2.2.2.2 _ mk.2.2⟩ ⟨fun a U g mk q => ⟨q.1, q.2.1, va_K.moved (u := U) (U := U.calling g mk a) (Vm.Alike.refl U.vm) q.2.2⟩, va_recv X.2 hP (ci := ci) (q0 := q0) hci he, fun U hU hW => ⟨rfl, by rw [hU]; exact hP.sub isC hC, va_K.moved hW.alike X.2⟩⟩ rfl hn hl hst (lv_room hW) d ⟨by rw [Nat.add_zero]; exact ho.1, by rw [Nat.add_zero]; exact ho.2⟩) kk
theorem rdS {post : Int32 → Prop} (X : Cx F cc nL own D tys) (mk : MKs own idx y b n ret np) (hM : RdM F.2.1 y b n ret rm' D tys wc As post) (hR : RmIn rm' (fxR F) n) (ho : fxOk F) (hP : va_P D vwCl ws H) (isC : List Nat) (hC : isC.filterMap (fun i => ws[i]?) = wc) (hl : ls.size = nL) (hn : As.length = np) (hst : st = As.reverse ++ rest) (hW : (rest.map fun v => v.category).sum ≤ 8) (d : decode cc pc = .ok (.invokestatic idx, 3)) (kk : ∀ r, post r → V F Q H locs (pc + 3) ls (.int r :: rest)) : V F Q H locs pc ls st :=
  vp_callSi (W.runS (As := As) (rest := rest) X.1 hM ⟨callB_gw X mk.1 hR, X.1.2.2.2.2 _ mk.2⟩ ⟨fun a U g mk q => ⟨q.1, q.2.1, va_K.moved (u := U) (U := U.calling g mk a) (Vm.Alike.refl U.vm) q.2.2⟩, fun U hU hW => ⟨rfl, by rw [hU]; exact hP.sub isC hC, va_K.moved hW.alike X.2⟩⟩ rfl hn hl hst (lv_room hW) d ⟨by rw [Nat.add_zero]; exact ho.1, by rw [Nat.add_zero]; exact ho.2⟩) kk
/-- how the callee's cells lie in the caller's -/
def Cut (ws wc wr : va_W) (isC isR : List Nat) : Prop := isC.map (fun i => ws[i]?) = wc.map some ∧ isR.map (fun i => ws[i]?) = wr.map some ∧ va_nd isC = true ∧ va_nd isR = true ∧ ∀ i ∈ isR, i ∉ isC
theorem Cut.sub {isC isR : List Nat} (h : Cut ws wc wr isC isR) : isC.filterMap (fun i => ws[i]?) = wc := by
  have h1 := h.1
  clear h
  induction isC generalizing wc with
  | nil => cases wc with
    | nil => rfl
    | cons x t => simp at h1
  | cons i t ih => cases wc with
    | nil => simp at h1
    | cons x u =>
      simp only [List.map_cons, List.cons.injEq] at h1
      rw [List.filterMap_cons_some h1.1, ih h1.2]
theorem wrVI {S : Type} {w1 : S → va_W} {post : Int32 → S → Prop} (X : Cx F cc nL own D tys) (mk : MKv own idx y b n ret np) (hM : WrI F.2.1 y b n ret rm' D tys wc (.ref a :: As) w1 post) (hR : RmIn rm' (fxR F) n) (ho : fxOk F) (hA : ∀ q : Nat, (fxS F).heap.size ≤ q → A q) (hH : HH F D A ws H locs) (isC isR : List Nat) (hC : Cut ws wc wr isC isR) (q0 : Nat) (he : ws[q0]? = some (a, .inr (ci, fs))) (hci : vwCl[ci]? = some (y.cls, T, N)) (hl : ls.size = nL) (hn : As.length = np) (hst : st = As.reverse ++ .ref a :: rest) (hW : (rest.map fun v => v.category).sum ≤ 8) (d : decode cc pc = .ok (.invokevirtual idx, 3)) (kk : ∀ (r : Int32) (u : S) (H1 : Heap) (locs1 : List Loc), post r u → HH F D A (wr ++ w1 u) H1 locs1 → V F Q H1 locs1 (pc + 3) ls (.int r :: rest)) : V F Q H locs pc ls st := by
  have hFc := va_free (wc := wc) hH.2.1 hH.2.2 hA isC hC.1
  have hDc := hH.2.1.sub (ws' := wc) isC hC.2.2.1 hC.1
  refine va_calli (va_runV (As := As) (rest := rest) X.1 (hM H.size) ⟨callB_gw X mk.1 hR, X.1.2.2.2.2 _ mk.2.1, X.1.2.2.2.2 _ mk.2.2⟩ ⟨fun a U g mk q => ⟨q.1, q.2.1, q.2.2.1, va_K.moved (u := U) (U := U.calling g mk a) (Vm.Alike.refl U.vm) q.2.2.2.1, q.2.2.2.2⟩, va_recv X.2 hH.1 (ci := ci) (q0 := q0) hci he, fun U hU hW => ⟨rfl, by rw [hU], by rw [hU]; exact hH.1.sub isC hC.sub, va_K.moved hW.alike X.2, hDc.weaken (fun _ _ _ _ => trivial)⟩⟩ rfl hn hl hst (lv_room hW) d ⟨by rw [Nat.add_zero]; exact ho.1, by rw [Nat.add_zero]; exact ho.2⟩) hH.2.2 (fun q _ h => hFc q h) hFc (fun r u t H1 locs1 ht hvm hw hB hz1 hk1 hS => ?_)
  obtain ⟨hP1, hK1, hD1⟩ := hB
  rw [ht] at hP1
  obtain ⟨hP, hD⟩ := va_join (wr := wr) (w1 := w1 u) hH.1 hH.2.1 isC isR hC.1 hC.2.1 hC.2.2.2.1 hC.2.2.2.2 hk1 hFc hP1 hD1
  exact kk r u H1 locs1 hw ⟨hP, hD, hS⟩
theorem wrVV {S : Type} {w1 : S → va_W} {post : S → Prop} (X : Cx F cc nL own D tys) (mk : MKv own idx y b n none np) (hM : WrV F.2.1 y b n rm' D tys wc (.ref a :: As) w1 post) (hR : RmIn rm' (fxR F) n) (ho : fxOk F) (hA : ∀ q : Nat, (fxS F).heap.size ≤ q → A q) (hH : HH F D A ws H locs) (isC isR : List Nat) (hC : Cut ws wc wr isC isR) (q0 : Nat) (he : ws[q0]? = some (a, .inr (ci, fs))) (hci : vwCl[ci]? = some (y.cls, T, N)) (hl : ls.size = nL) (hn : As.length = np) (hst : st = As.reverse ++ .ref a :: rest) (hW : (rest.map fun v => v.category).sum ≤ 8) (d : decode cc pc = .ok (.invokevirtual idx, 3)) (kk : ∀ (u : S) (H1 : Heap) (locs1 : List Loc), post u → HH F D A (wr ++ w1 u) H1 locs1 → V F Q H1 locs1 (pc + 3) ls rest) : V F Q H locs pc ls st := by
  have hFc := va_free (wc := wc) hH.2.1 hH.2.2 hA isC hC.1
  have hDc := hH.2.1.sub (ws' := wc) isC hC.2.2.1 hC.1
  refine va_callv (va_runV (As := As) (rest := rest) X.1 (hM H.size) ⟨callB_gw X mk.1 hR, X.1.2.2.2.2 _ mk.2.1, X.1.2.2.2.2 _ mk.2.2⟩ ⟨fun a U g mk q => ⟨q.1, q.2.1, q.2.2.1, va_K.moved (u := U) (U := U.calling g mk a) (Vm.Alike.refl U.vm) q.2.2.2.1, q.2.2.2.2⟩, va_recv X.2 hH.1 (ci := ci) (q0 := q0) hci he, fun U hU hW => ⟨rfl, by rw [hU], by rw [hU]; exact hH.1.sub isC hC.sub, va_K.moved hW.alike X.2, hDc.weaken (fun _ _ _ _ => trivial)⟩⟩ rfl hn hl hst (lv_room hW) d ⟨by rw [Nat.add_zero]; exact ho.1, by rw [Nat.add_zero]; exact ho.2⟩) hH.2.2 (fun q _ h => hFc q h) hFc (fun u t H1 locs1 ht hvm hw hB hz1 hk1 hS => ?_)
  obtain ⟨hP1, hK1, hD1⟩ := hB
  rw [ht] at hP1
  obtain ⟨hP, hD⟩ := va_join (wr := wr) (w1 := w1 u) hH.1 hH.2.1 isC isR hC.1 hC.2.1 hC.2.2.2.1 hC.2.2.2.2 hk1 hFc hP1 hD1
  exact kk u H1 locs1 hw ⟨hP, hD, hS⟩
theorem HH.perm {ws' : va_W} (h : HH F D A ws H locs) (is : List Nat) (hn : va_nd is = true) (hs : is.map (fun i => ws[i]?) = ws'.map some) : HH F D A ws' H locs :=
  ⟨h.1.sub is (Cut.sub (wr := []) (isR := []) ⟨hs, rfl, hn, rfl, fun _ h => absurd h List.not_mem_nil⟩), h.2.1.sub is hn hs, h.2.2⟩
end VC
end
section
theorem uin_X0 : ∀ w ∈ u_ws RX0 TX0 3, w ∈ gw := by
  show ∀ w ∈ ([u_lay RX0 TX0 0, u_lay RX0 TX0 1, u_lay RX0 TX0 2] : List Cond), w ∈ gw
  refine List.forall_mem_cons.mpr ⟨gk_1_136, List.forall_mem_cons.mpr ⟨gk_1_138, List.forall_mem_cons.mpr ⟨gk_1_140, fun _ h => absurd h List.not_mem_nil⟩⟩⟩
theorem uin_X1 : ∀ w ∈ u_ws RX1 TX1 12, w ∈ gw := by
  show ∀ w ∈ ([u_lay RX1 TX1 0, u_lay RX1 TX1 1, u_lay RX1 TX1 2, u_lay RX1 TX1 3, u_lay RX1 TX1 4, u_lay RX1 TX1 5, u_lay RX1 TX1 6, u_lay RX1 TX1 7, u_lay RX1 TX1 8, u_lay RX1 TX1 9, u_lay RX1 TX1 10, u_lay RX1 TX1 11] : List Cond), w ∈ gw
  refine List.forall_mem_cons.mpr ⟨gk_1_75, List.forall_mem_cons.mpr ⟨gk_1_77, List.forall_mem_cons.mpr ⟨gk_1_79, List.forall_mem_cons.mpr ⟨gk_1_81, List.forall_mem_cons.mpr ⟨gk_1_83, List.forall_mem_cons.mpr ⟨gk_1_85, List.forall_mem_cons.mpr ⟨gk_1_87, List.forall_mem_cons.mpr ⟨gk_1_89, List.forall_mem_cons.mpr ⟨gk_1_91, List.forall_mem_cons.mpr ⟨gk_1_93, List.forall_mem_cons.mpr ⟨gk_1_95, List.forall_mem_cons.mpr ⟨gk_1_97, fun _ h => absurd h List.not_mem_nil⟩⟩⟩⟩⟩⟩⟩⟩⟩⟩⟩⟩
theorem uin_X2 : ∀ w ∈ u_ws RX2 TX2 2, w ∈ gw := by
  show ∀ w ∈ ([u_lay RX2 TX2 0, u_lay RX2 TX2 1] : List Cond), w ∈ gw
  refine List.forall_mem_cons.mpr ⟨gk_1_188, List.forall_mem_cons.mpr ⟨gk_1_190, fun _ h => absurd h List.not_mem_nil⟩⟩
theorem uin_X3 : ∀ w ∈ u_ws RX3 TX3 3, w ∈ gw := by
  show ∀ w ∈ ([u_lay RX3 TX3 0, u_lay RX3 TX3 1, u_lay RX3 TX3 2] : List Cond), w ∈ gw
  refine List.forall_mem_cons.mpr ⟨gk_1_203, List.forall_mem_cons.mpr ⟨gk_1_205, List.forall_mem_cons.mpr ⟨gk_1_207, fun _ h => absurd h List.not_mem_nil⟩⟩⟩
theorem uin_X4 : ∀ w ∈ u_ws RX4 TX4 8, w ∈ gw := by
  show ∀ w ∈ ([u_lay RX4 TX4 0, u_lay RX4 TX4 1, u_lay RX4 TX4 2, u_lay RX4 TX4 3, u_lay RX4 TX4 4, u_lay RX4 TX4 5, u_lay RX4 TX4 6, u_lay RX4 TX4 7] : List Cond), w ∈ gw
  refine List.forall_mem_cons.mpr ⟨gk_1_161, List.forall_mem_cons.mpr ⟨gk_1_163, List.forall_mem_cons.mpr ⟨gk_1_165, List.forall_mem_cons.mpr ⟨gk_1_167, List.forall_mem_cons.mpr ⟨gk_1_169, List.forall_mem_cons.mpr ⟨gk_1_171, List.forall_mem_cons.mpr ⟨gk_1_173, List.forall_mem_cons.mpr ⟨gk_1_175, fun _ h => absurd h List.not_mem_nil⟩⟩⟩⟩⟩⟩⟩⟩
theorem uin_X5 : ∀ w ∈ u_ws RX5 TX5 5, w ∈ gw := by
  show ∀ w ∈ ([u_lay RX5 TX5 0, u_lay RX5 TX5 1, u_lay RX5 TX5 2, u_lay RX5 TX5 3, u_lay RX5 TX5 4] : List Cond), w ∈ gw
  refine List.forall_mem_cons.mpr ⟨gk_1_115, List.forall_mem_cons.mpr ⟨gk_1_117, List.forall_mem_cons.mpr ⟨gk_1_119, List.forall_mem_cons.mpr ⟨gk_1_121, List.forall_mem_cons.mpr ⟨gk_1_123, fun _ h => absurd h List.not_mem_nil⟩⟩⟩⟩⟩
theorem uin_X6 : ∀ w ∈ u_ws RX6 TX6 10, w ∈ gw := by
  show ∀ w ∈ ([u_lay RX6 TX6 0, u_lay RX6 TX6 1, u_lay RX6 TX6 2, u_lay RX6 TX6 3, u_lay RX6 TX6 4, u_lay RX6 TX6 5, u_lay RX6 TX6 6, u_lay RX6 TX6 7, u_lay RX6 TX6 8, u_lay RX6 TX6 9] : List Cond), w ∈ gw
  refine List.forall_mem_cons.mpr ⟨gk_1_220, List.forall_mem_cons.mpr ⟨gk_1_222, List.forall_mem_cons.mpr ⟨gk_1_224, List.forall_mem_cons.mpr ⟨gk_1_226, List.forall_mem_cons.mpr ⟨gk_1_228, List.forall_mem_cons.mpr ⟨gk_1_230, List.forall_mem_cons.mpr ⟨gk_1_232, List.forall_mem_cons.mpr ⟨gk_1_234, List.forall_mem_cons.mpr ⟨gk_1_236, List.forall_mem_cons.mpr ⟨gk_1_238, fun _ h => absurd h List.not_mem_nil⟩⟩⟩⟩⟩⟩⟩⟩⟩⟩
theorem uin_X7 : ∀ w ∈ u_ws RX7 TX7 17, w ∈ gw := by
  show ∀ w ∈ ([u_lay RX7 TX7 0, u_lay RX7 TX7 1, u_lay RX7 TX7 2, u_lay RX7 TX7 3, u_lay RX7 TX7 4, u_lay RX7 TX7 5, u_lay RX7 TX7 6, u_lay RX7 TX7 7, u_lay RX7 TX7 8, u_lay RX7 TX7 9, u_lay RX7 TX7 10, u_lay RX7 TX7 11, u_lay RX7 TX7 12, u_lay RX7 TX7 13, u_lay RX7 TX7 14, u_lay RX7 TX7 15, u_lay RX7 TX7 16] : List Cond), w ∈ gw
  refine List.forall_mem_cons.mpr ⟨gk_3_229, List.forall_mem_cons.mpr ⟨gk_3_231, List.forall_mem_cons.mpr ⟨gk_3_233, List.forall_mem_cons.mpr ⟨gk_3_235, List.forall_mem_cons.mpr ⟨gk_3_237, List.forall_mem_cons.mpr ⟨gk_3_239, List.forall_mem_cons.mpr ⟨gk_4_1, List.forall_mem_cons.mpr ⟨gk_4_3, List.forall_mem_cons.mpr ⟨gk_4_5, List.forall_mem_cons.mpr ⟨gk_4_7, List.forall_mem_cons.mpr ⟨gk_4_9, List.forall_mem_cons.mpr ⟨gk_4_11, List.forall_mem_cons.mpr ⟨gk_4_13, List.forall_mem_cons.mpr ⟨gk_4_15, List.forall_mem_cons.mpr ⟨gk_4_17, List.forall_mem_cons.mpr ⟨gk_4_19, List.forall_mem_cons.mpr ⟨gk_4_21, fun _ h => absurd h List.not_mem_nil⟩⟩⟩⟩⟩⟩⟩⟩⟩⟩⟩⟩⟩⟩⟩⟩⟩
theorem fk_X6_11 : FK RX6 11 6 0 := ⟨RX6, TX6, 10, rfl, uin_X6, by decide, gk_1_210⟩
theorem fk_X6_17 : FK RX6 17 6 1 := ⟨RX6, TX6, 10, rfl, uin_X6, by decide, gk_1_211⟩
theorem fk_X6_22 : FK RX6 22 6 2 := ⟨RX6, TX6, 10, rfl, uin_X6, by decide, gk_1_212⟩
theorem fk_X6_26 : FK RX6 26 6 3 := ⟨RX6, TX6, 10, rfl, uin_X6, by decide, gk_1_213⟩
theorem fk_X6_32 : FK RX6 32 6 4 := ⟨RX6, TX6, 10, rfl, uin_X6, by decide, gk_1_214⟩
theorem fk_X6_39 : FK RX6 39 6 5 := ⟨RX6, TX6, 10, rfl, uin_X6, by decide, gk_1_215⟩
theorem fk_X6_46 : FK RX6 46 6 6 := ⟨RX6, TX6, 10, rfl, uin_X6, by decide, gk_1_216⟩
theorem fk_X6_53 : FK RX6 53 6 7 := ⟨RX6, TX6, 10, rfl, uin_X6, by decide, gk_1_217⟩
theorem ms_X6_58 : MKs RX6 58 yX6_isWithin cX6_isWithin 3 (some .boolean) 3 := ⟨⟨gk_2_5, gk_1_1, gk_2_7, by decide +kernel, by decide +kernel, by decide +kernel⟩, gk_2_6⟩
theorem mv_X6_63 : MKv RX6 63 yX6_found cX6_found 2 (some .int) 1 := ⟨⟨gk_2_9, gk_1_1, gk_2_12, by decide +kernel, by decide +kernel, by decide +kernel⟩, gk_2_11, gw_p (q := (⟨"WakeLet", "found", "(I)I"⟩, 10)) (List.mem_of_getElem? (i := 0) rfl)⟩
theorem mv_X6_67 : MKv RX6 67 yX3_make cX3_make 4 none 2 := ⟨⟨gk_2_14, gk_1_7, gk_2_17, by decide +kernel, by decide +kernel, by decide +kernel⟩, gk_2_15, gk_2_16⟩
theorem mv_X6_71 : MKv RX6 71 yX6_unfound cX6_unfound 2 (some .int) 1 := ⟨⟨gk_2_18, gk_1_1, gk_2_21, by decide +kernel, by decide +kernel, by decide +kernel⟩, gk_2_20, gw_p (q := (⟨"WakeLet", "unfound", "(I)I"⟩, 10)) (List.mem_of_getElem? (i := 1) rfl)⟩
theorem mv_X6_74 : MKv RX6 74 yX3_isMissing cX3_isMissing 1 (some .boolean) 0 := ⟨⟨gk_2_26, gk_1_7, gk_2_29, by decide +kernel, by decide +kernel, by decide +kernel⟩, gk_2_27, gk_2_28⟩
theorem mv_X6_78 : MKv RX6 78 yX3_holds cX3_holds 3 (some .boolean) 2 := ⟨⟨gk_2_30, gk_1_7, gk_2_33, by decide +kernel, by decide +kernel, by decide +kernel⟩, gk_2_31, gk_2_32⟩
theorem mv_X6_82 : MKv RX6 82 yX3_put cX3_put 3 (some .int) 2 := ⟨⟨gk_2_34, gk_1_7, gk_2_37, by decide +kernel, by decide +kernel, by decide +kernel⟩, gk_2_35, gk_2_36⟩
theorem fk_X6_86 : FK RX6 86 3 1 := ⟨RX3, TX3, 3, rfl, uin_X3, by decide, gk_1_201⟩
theorem fi_X6_86 : FI RX6 86 3 1 := ⟨RX3, TX3, 3, tyX3, rfl, uin_X3, by decide, gk_1_201, tyX3_ok, nmX3, rfl, by decide +kernel⟩
theorem fk_X6_90 : FK RX6 90 3 0 := ⟨RX3, TX3, 3, rfl, uin_X3, by decide, gk_1_199⟩
theorem ka_X6_94 : KA RX6 94 := ⟨gk_2_42, gk_2_44, gk_2_43, gk_1_9⟩
theorem mv_X6_100 : MKv RX6 100 yX3_lose cX3_lose 2 (some .int) 0 := ⟨⟨gk_2_49, gk_1_7, gk_2_52, by decide +kernel, by decide +kernel, by decide +kernel⟩, gk_2_50, gk_2_51⟩
theorem mv_X6_104 : MKv RX6 104 yX5_append cX5_append 2 (some .boolean) 1 := ⟨⟨gk_2_57, gk_1_3, gk_2_60, by decide +kernel, by decide +kernel, by decide +kernel⟩, gk_2_58, gk_2_59⟩
theorem fk_X6_108 : FK RX6 108 5 1 := ⟨RX5, TX5, 5, rfl, uin_X5, by decide, gk_1_109⟩
theorem fi_X6_108 : FI RX6 108 5 1 := ⟨RX5, TX5, 5, tyX5, rfl, uin_X5, by decide, gk_1_109, tyX5_ok, nmX5, rfl, by decide +kernel⟩
theorem mv_X6_112 : MKv RX6 112 yX5_readInto cX5_readInto 2 none 1 := ⟨⟨gk_2_66, gk_1_3, gk_2_69, by decide +kernel, by decide +kernel, by decide +kernel⟩, gk_2_67, gk_2_68⟩
theorem fk_X6_116 : FK RX6 116 5 3 := ⟨RX5, TX5, 5, rfl, uin_X5, by decide, gk_1_112⟩
theorem fi_X6_116 : FI RX6 116 5 3 := ⟨RX5, TX5, 5, tyX5, rfl, uin_X5, by decide, gk_1_112, tyX5_ok, nmX5, rfl, by decide +kernel⟩
theorem fk_X6_119 : FK RX6 119 6 8 := ⟨RX6, TX6, 10, rfl, uin_X6, by decide, gk_1_218⟩
theorem fi_X6_119 : FI RX6 119 6 8 := ⟨RX6, TX6, 10, tyX6, rfl, uin_X6, by decide, gk_1_218, tyX6_ok, nmX6, rfl, by decide +kernel⟩
theorem fk_X6_123 : FK RX6 123 5 4 := ⟨RX5, TX5, 5, rfl, uin_X5, by decide, gk_1_113⟩
theorem fi_X6_123 : FI RX6 123 5 4 := ⟨RX5, TX5, 5, tyX5, rfl, uin_X5, by decide, gk_1_113, tyX5_ok, nmX5, rfl, by decide +kernel⟩
theorem mv_X6_126 : MKv RX6 126 yX1_copyFrom cX1_copyFrom 2 none 1 := ⟨⟨gk_2_128, gk_1_2, gk_2_131, by decide +kernel, by decide +kernel, by decide +kernel⟩, gk_2_129, gk_2_130⟩
theorem mv_X6_129 : MKv RX6 129 yX0_forgetAll cX0_forgetAll 1 none 0 := ⟨⟨gk_2_133, gk_1_4, gk_2_136, by decide +kernel, by decide +kernel, by decide +kernel⟩, gk_2_134, gk_2_135⟩
theorem fk_X6_132 : FK RX6 132 1 7 := ⟨RX1, TX1, 12, rfl, uin_X1, by decide, gk_1_61⟩
theorem fi_X6_132 : FI RX6 132 1 7 := ⟨RX1, TX1, 12, tyX1, rfl, uin_X1, by decide, gk_1_61, tyX1_ok, nmX1, rfl, by decide +kernel⟩
theorem mv_X6_135 : MKv RX6 135 yX1_isOpen cX1_isOpen 1 (some .boolean) 0 := ⟨⟨gk_2_145, gk_1_2, gk_2_148, by decide +kernel, by decide +kernel, by decide +kernel⟩, gk_2_146, gk_2_147⟩
theorem fk_X6_139 : FK RX6 139 1 11 := ⟨RX1, TX1, 12, rfl, uin_X1, by decide, gk_1_74⟩
theorem fi_X6_139 : FI RX6 139 1 11 := ⟨RX1, TX1, 12, tyX1, rfl, uin_X1, by decide, gk_1_74, tyX1_ok, nmX1, rfl, by decide +kernel⟩
theorem mv_X6_142 : MKv RX6 142 yX0_keep cX0_keep 3 none 1 := ⟨⟨gk_2_150, gk_1_4, gk_2_153, by decide +kernel, by decide +kernel, by decide +kernel⟩, gk_2_151, gk_2_152⟩
theorem mv_X6_145 : MKv RX6 145 yX1_passNight cX1_passNight 3 none 1 := ⟨⟨gk_2_159, gk_1_2, gk_2_162, by decide +kernel, by decide +kernel, by decide +kernel⟩, gk_2_160, gk_2_161⟩
theorem mv_X6_149 : MKv RX6 149 yX1_resting cX1_resting 3 (some .int) 0 := ⟨⟨gk_2_194, gk_1_2, gk_2_197, by decide +kernel, by decide +kernel, by decide +kernel⟩, gk_2_195, gk_2_196⟩
theorem mv_X6_152 : MKv RX6 152 yX1_hasWaker cX1_hasWaker 2 (some .boolean) 1 := ⟨⟨gk_2_202, gk_1_2, gk_2_178, by decide +kernel, by decide +kernel, by decide +kernel⟩, gk_2_176, gk_2_177⟩
theorem mv_X6_155 : MKv RX6 155 yX1_hasClient cX1_hasClient 2 (some .boolean) 1 := ⟨⟨gk_2_203, gk_1_2, gk_2_126, by decide +kernel, by decide +kernel, by decide +kernel⟩, gk_2_124, gk_2_125⟩
theorem fk_X6_158 : FK RX6 158 1 5 := ⟨RX1, TX1, 12, rfl, uin_X1, by decide, gk_1_52⟩
theorem mv_X6_161 : MKv RX6 161 yX1_makeHeavier cX1_makeHeavier 3 none 2 := ⟨⟨gk_2_208, gk_1_2, gk_2_211, by decide +kernel, by decide +kernel, by decide +kernel⟩, gk_2_209, gk_2_210⟩
theorem fk_X6_164 : FK RX6 164 1 0 := ⟨RX1, TX1, 12, rfl, uin_X1, by decide, gk_1_33⟩
theorem fk_X6_167 : FK RX6 167 1 4 := ⟨RX1, TX1, 12, rfl, uin_X1, by decide, gk_1_48⟩
theorem mv_X6_170 : MKv RX6 170 yX0_takeBack cX0_takeBack 3 (some .boolean) 1 := ⟨⟨gk_2_220, gk_1_4, gk_2_223, by decide +kernel, by decide +kernel, by decide +kernel⟩, gk_2_221, gk_2_222⟩
theorem fk_X6_174 : FK RX6 174 0 2 := ⟨RX0, TX0, 3, rfl, uin_X0, by decide, gk_1_135⟩
theorem fi_X6_174 : FI RX6 174 0 2 := ⟨RX0, TX0, 3, tyX0, rfl, uin_X0, by decide, gk_1_135, tyX0_ok, nmX0, rfl, by decide +kernel⟩
theorem fk_X6_177 : FK RX6 177 1 1 := ⟨RX1, TX1, 12, rfl, uin_X1, by decide, gk_1_36⟩
theorem mv_X6_180 : MKv RX6 180 yX1_hiredBy cX1_hiredBy 4 (some .int) 1 := ⟨⟨gk_2_228, gk_1_2, gk_2_170, by decide +kernel, by decide +kernel, by decide +kernel⟩, gk_2_168, gk_2_169⟩
theorem mv_X6_183 : MKv RX6 183 yX1_lighterBy cX1_lighterBy 6 (some .int) 2 := ⟨⟨gk_2_229, gk_1_2, gk_2_166, by decide +kernel, by decide +kernel, by decide +kernel⟩, gk_2_164, gk_2_165⟩
theorem fk_X6_186 : FK RX6 186 1 3 := ⟨RX1, TX1, 12, rfl, uin_X1, by decide, gk_1_44⟩
theorem mv_X6_189 : MKv RX6 189 yX1_lying cX1_lying 5 (some .int) 3 := ⟨⟨gk_2_234, gk_1_2, gk_2_183, by decide +kernel, by decide +kernel, by decide +kernel⟩, gk_2_181, gk_2_182⟩
theorem fk_X6_193 : FK RX6 193 1 6 := ⟨RX1, TX1, 12, rfl, uin_X1, by decide, gk_1_57⟩
theorem mv_X6_196 : MKv RX6 196 yX6_foretell cX6_foretell 3 none 1 := ⟨⟨gk_2_239, gk_1_1, gk_3_2, by decide +kernel, by decide +kernel, by decide +kernel⟩, gk_3_1, gw_p (q := (⟨"WakeLet", "foretell", "(I)V"⟩, 10)) (List.mem_of_getElem? (i := 13) rfl)⟩
theorem mv_X6_199 : MKv RX6 199 yX6_firstRest cX6_firstRest 3 (some .int) 1 := ⟨⟨gk_3_15, gk_1_1, gk_3_18, by decide +kernel, by decide +kernel, by decide +kernel⟩, gk_3_17, gw_p (q := (⟨"WakeLet", "firstRest", "(I)I"⟩, 10)) (List.mem_of_getElem? (i := 14) rfl)⟩
theorem mv_X6_202 : MKv RX6 202 yX1_hasAll cX1_hasAll 2 (some .boolean) 1 := ⟨⟨gk_3_24, gk_1_2, gk_3_27, by decide +kernel, by decide +kernel, by decide +kernel⟩, gk_3_25, gk_3_26⟩
theorem mv_X6_205 : MKv RX6 205 yX4_findBest cX4_findBest 9 none 2 := ⟨⟨gk_3_36, gk_1_5, gk_3_39, by decide +kernel, by decide +kernel, by decide +kernel⟩, gk_3_37, gk_3_38⟩
theorem fk_X6_209 : FK RX6 209 4 6 := ⟨RX4, TX4, 8, rfl, uin_X4, by decide, gk_1_158⟩
theorem fi_X6_209 : FI RX6 209 4 6 := ⟨RX4, TX4, 8, tyX4, rfl, uin_X4, by decide, gk_1_158, tyX4_ok, nmX4, rfl, by decide +kernel⟩
theorem fk_X6_212 : FK RX6 212 4 5 := ⟨RX4, TX4, 8, rfl, uin_X4, by decide, gk_1_156⟩
theorem fi_X6_212 : FI RX6 212 4 5 := ⟨RX4, TX4, 8, tyX4, rfl, uin_X4, by decide, gk_1_156, tyX4_ok, nmX4, rfl, by decide +kernel⟩
theorem mv_X6_214 : MKv RX6 214 yX6_hirerFound cX6_hirerFound 2 (some .int) 1 := ⟨⟨gk_3_72, gk_1_1, gk_3_75, by decide +kernel, by decide +kernel, by decide +kernel⟩, gk_3_74, gw_p (q := (⟨"WakeLet", "hirerFound", "(I)I"⟩, 10)) (List.mem_of_getElem? (i := 20) rfl)⟩
theorem mv_X6_217 : MKv RX6 217 yX4_findFewest cX4_findFewest 7 none 3 := ⟨⟨gk_3_80, gk_1_5, gk_3_83, by decide +kernel, by decide +kernel, by decide +kernel⟩, gk_3_81, gk_3_82⟩
theorem fk_X6_221 : FK RX6 221 4 7 := ⟨RX4, TX4, 8, rfl, uin_X4, by decide, gk_1_160⟩
theorem fi_X6_221 : FI RX6 221 4 7 := ⟨RX4, TX4, 8, tyX4, rfl, uin_X4, by decide, gk_1_160, tyX4_ok, nmX4, rfl, by decide +kernel⟩
theorem mv_X6_225 : MKv RX6 225 yX6_isGuess cX6_isGuess 3 (some .boolean) 2 := ⟨⟨gk_3_93, gk_1_1, gk_3_96, by decide +kernel, by decide +kernel, by decide +kernel⟩, gk_3_95, gw_p (q := (⟨"WakeLet", "isGuess", "(II)Z"⟩, 10)) (List.mem_of_getElem? (i := 22) rfl)⟩
theorem mv_X6_228 : MKv RX6 228 yX6_wouldShow cX6_wouldShow 8 (some .boolean) 6 := ⟨⟨gk_3_97, gk_1_1, gk_3_100, by decide +kernel, by decide +kernel, by decide +kernel⟩, gk_3_99, gw_p (q := (⟨"WakeLet", "wouldShow", "(IIILWakeLet$Row;II)Z"⟩, 10)) (List.mem_of_getElem? (i := 23) rfl)⟩
theorem fk_X6_232 : FK RX6 232 1 8 := ⟨RX1, TX1, 12, rfl, uin_X1, by decide, gk_1_65⟩
theorem fi_X6_232 : FI RX6 232 1 8 := ⟨RX1, TX1, 12, tyX1, rfl, uin_X1, by decide, gk_1_65, tyX1_ok, nmX1, rfl, by decide +kernel⟩
theorem ms_X6_235 : MKs RX6 235 yJ6_bitCount_0f7a4 cJ6_bitCount_0f7a4 1 (some .int) 1 := ⟨⟨gk_3_105, gk_1_11, gk_3_107, by decide +kernel, by decide +kernel, by decide +kernel⟩, gk_3_106⟩
theorem mv_X6_240 : MKv RX6 240 yX6_waysToBe cX6_waysToBe 5 (some .int) 2 := ⟨⟨gk_3_111, gk_1_1, gk_3_114, by decide +kernel, by decide +kernel, by decide +kernel⟩, gk_3_113, gw_p (q := (⟨"WakeLet", "waysToBe", "(II)I"⟩, 10)) (List.mem_of_getElem? (i := 24) rfl)⟩
theorem ms_X6_243 : MKs RX6 243 yX6_commonDivisor cX6_commonDivisor 6 (some .int) 2 := ⟨⟨gk_3_115, gk_1_1, gk_3_117, by decide +kernel, by decide +kernel, by decide +kernel⟩, gk_3_116⟩
theorem km_X6_246 : KMx RX6 246 := ⟨gk_3_118, gk_2_189, gk_1_10, gk_2_190⟩
theorem mv_X6_258 : MKv RX6 258 yX1_weightsTogether cX1_weightsTogether 3 (some .int) 0 := ⟨⟨gk_3_127, gk_1_2, gk_3_130, by decide +kernel, by decide +kernel, by decide +kernel⟩, gk_3_128, gk_3_129⟩
theorem fk_X6_261 : FK RX6 261 1 2 := ⟨RX1, TX1, 12, rfl, uin_X1, by decide, gk_1_40⟩
theorem ms_X6_264 : MKs RX6 264 yX2_isOfKind cX2_isOfKind 4 (some .boolean) 2 := ⟨⟨gk_3_147, gk_1_6, gk_3_149, by decide +kernel, by decide +kernel, by decide +kernel⟩, gk_3_148⟩
theorem mv_X6_267 : MKv RX6 267 yX2_begin cX2_begin 4 (some .int) 3 := ⟨⟨gk_3_159, gk_1_6, gk_3_162, by decide +kernel, by decide +kernel, by decide +kernel⟩, gk_3_160, gk_3_161⟩
theorem fk_X6_271 : FK RX6 271 2 1 := ⟨RX2, TX2, 2, rfl, uin_X2, by decide, gk_1_187⟩
theorem fi_X6_271 : FI RX6 271 2 1 := ⟨RX2, TX2, 2, tyX2, rfl, uin_X2, by decide, gk_1_187, tyX2_ok, nmX2, rfl, by decide +kernel⟩
theorem fk_X6_274 : FK RX6 274 2 0 := ⟨RX2, TX2, 2, rfl, uin_X2, by decide, gk_1_185⟩
theorem mv_X6_277 : MKv RX6 277 yX6_rowsThere cX6_rowsThere 3 (some .int) 0 := ⟨⟨gk_3_194, gk_1_1, gk_3_197, by decide +kernel, by decide +kernel, by decide +kernel⟩, gk_3_196, gw_p (q := (⟨"WakeLet", "rowsThere", "()I"⟩, 10)) (List.mem_of_getElem? (i := 28) rfl)⟩
theorem mv_X6_280 : MKv RX6 280 yX1_wagesTogether cX1_wagesTogether 3 (some .int) 0 := ⟨⟨gk_3_198, gk_1_2, gk_3_201, by decide +kernel, by decide +kernel, by decide +kernel⟩, gk_3_199, gk_3_200⟩
theorem fk_X6_283 : FK RX6 283 6 9 := ⟨RX6, TX6, 10, rfl, uin_X6, by decide, gk_1_219⟩
theorem fi_X6_283 : FI RX6 283 6 9 := ⟨RX6, TX6, 10, tyX6, rfl, uin_X6, by decide, gk_1_219, tyX6_ok, nmX6, rfl, by decide +kernel⟩
theorem fk_X6_287 : FK RX6 287 4 4 := ⟨RX4, TX4, 8, rfl, uin_X4, by decide, gk_1_154⟩
theorem fk_X0_11 : FK RX0 11 0 0 := ⟨RX0, TX0, 3, rfl, uin_X0, by decide, gk_1_132⟩
theorem fk_X0_15 : FK RX0 15 0 2 := ⟨RX0, TX0, 3, rfl, uin_X0, by decide, gk_1_134⟩
theorem fi_X0_15 : FI RX0 15 0 2 := ⟨RX0, TX0, 3, tyX0, rfl, uin_X0, by decide, gk_1_134, tyX0_ok, nmX0, rfl, by decide +kernel⟩
theorem fk_X0_19 : FK RX0 19 0 1 := ⟨RX0, TX0, 3, rfl, uin_X0, by decide, gk_1_133⟩
theorem fi_X0_19 : FI RX0 19 0 1 := ⟨RX0, TX0, 3, tyX0, rfl, uin_X0, by decide, gk_1_133, tyX0_ok, nmX0, rfl, by decide +kernel⟩
theorem mv_X0_22 : MKv RX0 22 yX0_startOf cX0_startOf 2 (some .int) 1 := ⟨⟨gk_2_154, gk_1_4, gk_2_157, by decide +kernel, by decide +kernel, by decide +kernel⟩, gk_2_156, gw_p (q := (⟨"WakeLet$Acts", "startOf", "(I)I"⟩, 3)) (List.mem_of_getElem? (i := 12) rfl)⟩
theorem fk_X0_26 : FK RX0 26 1 11 := ⟨RX1, TX1, 12, rfl, uin_X1, by decide, gk_1_72⟩
theorem fi_X0_26 : FI RX0 26 1 11 := ⟨RX1, TX1, 12, tyX1, rfl, uin_X1, by decide, gk_1_72, tyX1_ok, nmX1, rfl, by decide +kernel⟩
theorem fk_X0_31 : FK RX0 31 1 0 := ⟨RX1, TX1, 12, rfl, uin_X1, by decide, gk_1_30⟩
theorem ka_X0_34 : KA RX0 34 := ⟨gk_2_158, gk_2_44, gk_2_43, gk_1_9⟩
theorem fk_X0_40 : FK RX0 40 1 4 := ⟨RX1, TX1, 12, rfl, uin_X1, by decide, gk_1_46⟩
theorem fk_X0_43 : FK RX0 43 1 5 := ⟨RX1, TX1, 12, rfl, uin_X1, by decide, gk_1_50⟩
theorem fk_X0_46 : FK RX0 46 1 6 := ⟨RX1, TX1, 12, rfl, uin_X1, by decide, gk_1_54⟩
theorem fk_X1_9 : FK RX1 9 1 0 := ⟨RX1, TX1, 12, rfl, uin_X1, by decide, gk_1_29⟩
theorem fk_X1_15 : FK RX1 15 1 1 := ⟨RX1, TX1, 12, rfl, uin_X1, by decide, gk_1_34⟩
theorem fk_X1_18 : FK RX1 18 1 2 := ⟨RX1, TX1, 12, rfl, uin_X1, by decide, gk_1_37⟩
theorem fk_X1_21 : FK RX1 21 1 3 := ⟨RX1, TX1, 12, rfl, uin_X1, by decide, gk_1_41⟩
theorem fk_X1_24 : FK RX1 24 1 4 := ⟨RX1, TX1, 12, rfl, uin_X1, by decide, gk_1_45⟩
theorem fk_X1_27 : FK RX1 27 1 5 := ⟨RX1, TX1, 12, rfl, uin_X1, by decide, gk_1_49⟩
theorem fk_X1_30 : FK RX1 30 1 6 := ⟨RX1, TX1, 12, rfl, uin_X1, by decide, gk_1_53⟩
theorem fk_X1_33 : FK RX1 33 1 7 := ⟨RX1, TX1, 12, rfl, uin_X1, by decide, gk_1_58⟩
theorem fi_X1_33 : FI RX1 33 1 7 := ⟨RX1, TX1, 12, tyX1, rfl, uin_X1, by decide, gk_1_58, tyX1_ok, nmX1, rfl, by decide +kernel⟩
theorem fk_X1_37 : FK RX1 37 1 8 := ⟨RX1, TX1, 12, rfl, uin_X1, by decide, gk_1_62⟩
theorem fi_X1_37 : FI RX1 37 1 8 := ⟨RX1, TX1, 12, tyX1, rfl, uin_X1, by decide, gk_1_62, tyX1_ok, nmX1, rfl, by decide +kernel⟩
theorem fk_X1_40 : FK RX1 40 1 11 := ⟨RX1, TX1, 12, rfl, uin_X1, by decide, gk_1_71⟩
theorem fi_X1_40 : FI RX1 40 1 11 := ⟨RX1, TX1, 12, tyX1, rfl, uin_X1, by decide, gk_1_71, tyX1_ok, nmX1, rfl, by decide +kernel⟩
theorem ka_X1_43 : KA RX1 43 := ⟨gk_2_132, gk_2_44, gk_2_43, gk_1_9⟩
theorem fk_X1_49 : FK RX1 49 1 9 := ⟨RX1, TX1, 12, rfl, uin_X1, by decide, gk_1_67⟩
theorem fi_X1_49 : FI RX1 49 1 9 := ⟨RX1, TX1, 12, tyX1, rfl, uin_X1, by decide, gk_1_67, tyX1_ok, nmX1, rfl, by decide +kernel⟩
theorem fk_X1_52 : FK RX1 52 1 10 := ⟨RX1, TX1, 12, rfl, uin_X1, by decide, gk_1_69⟩
theorem fi_X1_52 : FI RX1 52 1 10 := ⟨RX1, TX1, 12, tyX1, rfl, uin_X1, by decide, gk_1_69, tyX1_ok, nmX1, rfl, by decide +kernel⟩
theorem mv_X1_55 : MKv RX1 55 yX1_hasWaker cX1_hasWaker 2 (some .boolean) 1 := ⟨⟨gk_2_175, gk_1_2, gk_2_178, by decide +kernel, by decide +kernel, by decide +kernel⟩, gk_2_176, gk_2_177⟩
theorem mv_X1_59 : MKv RX1 59 yX1_hasClient cX1_hasClient 2 (some .boolean) 1 := ⟨⟨gk_2_179, gk_1_2, gk_2_126, by decide +kernel, by decide +kernel, by decide +kernel⟩, gk_2_124, gk_2_125⟩
theorem ms_X1_62 : MKs RX1 62 yX1_guarding cX1_guarding 2 (some .int) 2 := ⟨⟨gk_2_184, gk_1_2, gk_2_186, by decide +kernel, by decide +kernel, by decide +kernel⟩, gk_2_185⟩
theorem km_X1_66 : KMn RX1 66 := ⟨gk_2_187, gk_2_98, gk_1_10, gk_2_99⟩
theorem mv_X1_71 : MKv RX1 71 yX1_lying cX1_lying 5 (some .int) 3 := ⟨⟨gk_2_180, gk_1_2, gk_2_183, by decide +kernel, by decide +kernel, by decide +kernel⟩, gk_2_181, gk_2_182⟩
theorem mv_X1_75 : MKv RX1 75 yX1_hiredBy cX1_hiredBy 4 (some .int) 1 := ⟨⟨gk_2_167, gk_1_2, gk_2_170, by decide +kernel, by decide +kernel, by decide +kernel⟩, gk_2_168, gk_2_169⟩
theorem mv_X1_79 : MKv RX1 79 yX1_takenBy cX1_takenBy 5 (some .int) 3 := ⟨⟨gk_2_171, gk_1_2, gk_2_174, by decide +kernel, by decide +kernel, by decide +kernel⟩, gk_2_172, gk_2_173⟩
theorem km_X1_82 : KMx RX1 82 := ⟨gk_2_188, gk_2_189, gk_1_10, gk_2_190⟩
theorem mv_X1_85 : MKv RX1 85 yX1_lighterBy cX1_lighterBy 6 (some .int) 2 := ⟨⟨gk_2_163, gk_1_2, gk_2_166, by decide +kernel, by decide +kernel, by decide +kernel⟩, gk_2_164, gk_2_165⟩
theorem ms_X1_88 : MKs RX1 88 yX1_nextWeight cX1_nextWeight 2 (some .int) 2 := ⟨⟨gk_2_191, gk_1_2, gk_2_193, by decide +kernel, by decide +kernel, by decide +kernel⟩, gk_2_192⟩
theorem fk_X2_11 : FK RX2 11 2 0 := ⟨RX2, TX2, 2, rfl, uin_X2, by decide, gk_1_184⟩
theorem fk_X2_15 : FK RX2 15 2 1 := ⟨RX2, TX2, 2, rfl, uin_X2, by decide, gk_1_186⟩
theorem fi_X2_15 : FI RX2 15 2 1 := ⟨RX2, TX2, 2, tyX2, rfl, uin_X2, by decide, gk_1_186, tyX2_ok, nmX2, rfl, by decide +kernel⟩
theorem mv_X2_19 : MKv RX2 19 yX2_askAnew cX2_askAnew 5 (some .int) 4 := ⟨⟨gk_3_163, gk_1_6, gk_3_166, by decide +kernel, by decide +kernel, by decide +kernel⟩, gk_3_165, gw_p (q := (⟨"WakeLet$Asks", "askAnew", "(LWakeLet$Agency;III)I"⟩, 2)) (List.mem_of_getElem? (i := 25) rfl)⟩
theorem ms_X2_23 : MKs RX2 23 yX2_parentOf cX2_parentOf 1 (some .int) 1 := ⟨⟨gk_3_150, gk_1_6, gk_3_152, by decide +kernel, by decide +kernel, by decide +kernel⟩, gk_3_151⟩
theorem mv_X2_30 : MKv RX2 30 yX1_hasWaker cX1_hasWaker 2 (some .boolean) 1 := ⟨⟨gk_3_167, gk_1_2, gk_2_178, by decide +kernel, by decide +kernel, by decide +kernel⟩, gk_2_176, gk_2_177⟩
theorem fk_X2_36 : FK RX2 36 1 2 := ⟨RX1, TX1, 12, rfl, uin_X1, by decide, gk_1_38⟩
theorem ms_X2_39 : MKs RX2 39 yX2_bodyFor cX2_bodyFor 4 (some .int) 2 := ⟨⟨gk_3_168, gk_1_6, gk_3_170, by decide +kernel, by decide +kernel, by decide +kernel⟩, gk_3_169⟩
theorem mv_X2_43 : MKv RX2 43 yX2_runBody cX2_runBody 6 (some .int) 4 := ⟨⟨gk_3_178, gk_1_6, gk_3_181, by decide +kernel, by decide +kernel, by decide +kernel⟩, gk_3_180, gw_p (q := (⟨"WakeLet$Asks", "runBody", "(LWakeLet$Agency;III)I"⟩, 2)) (List.mem_of_getElem? (i := 26) rfl)⟩
theorem ms_X2_46 : MKs RX2 46 yX2_ownBody cX2_ownBody 3 (some .int) 2 := ⟨⟨gk_3_171, gk_1_6, gk_3_173, by decide +kernel, by decide +kernel, by decide +kernel⟩, gk_3_172⟩
theorem mv_X2_55 : MKv RX2 55 yX2_leave cX2_leave 2 none 1 := ⟨⟨gk_3_182, gk_1_6, gk_3_185, by decide +kernel, by decide +kernel, by decide +kernel⟩, gk_3_184, gw_p (q := (⟨"WakeLet$Asks", "leave", "(I)V"⟩, 2)) (List.mem_of_getElem? (i := 27) rfl)⟩
theorem fk_X2_59 : FK RX2 59 1 3 := ⟨RX1, TX1, 12, rfl, uin_X1, by decide, gk_1_43⟩
theorem fk_X2_62 : FK RX2 62 1 6 := ⟨RX1, TX1, 12, rfl, uin_X1, by decide, gk_1_56⟩
theorem fk_X3_9 : FK RX3 9 3 0 := ⟨RX3, TX3, 3, rfl, uin_X3, by decide, gk_1_198⟩
theorem fk_X3_15 : FK RX3 15 3 2 := ⟨RX3, TX3, 3, rfl, uin_X3, by decide, gk_1_202⟩
theorem fi_X3_15 : FI RX3 15 3 2 := ⟨RX3, TX3, 3, tyX3, rfl, uin_X3, by decide, gk_1_202, tyX3_ok, nmX3, rfl, by decide +kernel⟩
theorem fk_X3_19 : FK RX3 19 3 1 := ⟨RX3, TX3, 3, rfl, uin_X3, by decide, gk_1_200⟩
theorem fi_X3_19 : FI RX3 19 3 1 := ⟨RX3, TX3, 3, tyX3, rfl, uin_X3, by decide, gk_1_200, tyX3_ok, nmX3, rfl, by decide +kernel⟩
theorem fk_X4_9 : FK RX4 9 4 0 := ⟨RX4, TX4, 8, rfl, uin_X4, by decide, gk_1_149⟩
theorem fk_X4_15 : FK RX4 15 4 1 := ⟨RX4, TX4, 8, rfl, uin_X4, by decide, gk_1_150⟩
theorem fk_X4_18 : FK RX4 18 4 2 := ⟨RX4, TX4, 8, rfl, uin_X4, by decide, gk_1_151⟩
theorem fk_X4_21 : FK RX4 21 4 3 := ⟨RX4, TX4, 8, rfl, uin_X4, by decide, gk_1_152⟩
theorem fk_X4_24 : FK RX4 24 4 4 := ⟨RX4, TX4, 8, rfl, uin_X4, by decide, gk_1_153⟩
theorem mv_X4_27 : MKv RX4 27 yX4_foretellSets cX4_foretellSets 7 none 2 := ⟨⟨gk_3_40, gk_1_5, gk_3_43, by decide +kernel, by decide +kernel, by decide +kernel⟩, gk_3_42, gw_p (q := (⟨"WakeLet$Search", "foretellSets", "(LWakeLet$Agency;I)V"⟩, 8)) (List.mem_of_getElem? (i := 15) rfl)⟩
theorem fk_X4_31 : FK RX4 31 4 5 := ⟨RX4, TX4, 8, rfl, uin_X4, by decide, gk_1_155⟩
theorem fi_X4_31 : FI RX4 31 4 5 := ⟨RX4, TX4, 8, tyX4, rfl, uin_X4, by decide, gk_1_155, tyX4_ok, nmX4, rfl, by decide +kernel⟩
theorem ms_X4_35 : MKs RX4 35 yX4_waysToLet cX4_waysToLet 3 (some .int) 1 := ⟨⟨gk_3_55, gk_1_5, gk_3_57, by decide +kernel, by decide +kernel, by decide +kernel⟩, gk_3_56⟩
theorem mv_X4_39 : MKv RX4 39 yX4_tryWay cX4_tryWay 8 (some .int) 2 := ⟨⟨gk_3_58, gk_1_5, gk_3_61, by decide +kernel, by decide +kernel, by decide +kernel⟩, gk_3_60, gw_p (q := (⟨"WakeLet$Search", "tryWay", "(LWakeLet$Agency;I)I"⟩, 8)) (List.mem_of_getElem? (i := 17) rfl)⟩
theorem fk_X4_43 : FK RX4 43 1 7 := ⟨RX1, TX1, 12, rfl, uin_X1, by decide, gk_1_59⟩
theorem fi_X4_43 : FI RX4 43 1 7 := ⟨RX1, TX1, 12, tyX1, rfl, uin_X1, by decide, gk_1_59, tyX1_ok, nmX1, rfl, by decide +kernel⟩
theorem mv_X4_48 : MKv RX4 48 yX4_weightBehind cX4_weightBehind 2 (some .int) 1 := ⟨⟨gk_3_63, gk_1_5, gk_3_66, by decide +kernel, by decide +kernel, by decide +kernel⟩, gk_3_65, gw_p (q := (⟨"WakeLet$Search", "weightBehind", "(I)I"⟩, 8)) (List.mem_of_getElem? (i := 18) rfl)⟩
theorem fk_X4_52 : FK RX4 52 1 9 := ⟨RX1, TX1, 12, rfl, uin_X1, by decide, gk_1_66⟩
theorem fi_X4_52 : FI RX4 52 1 9 := ⟨RX1, TX1, 12, tyX1, rfl, uin_X1, by decide, gk_1_66, tyX1_ok, nmX1, rfl, by decide +kernel⟩
theorem fk_X4_55 : FK RX4 55 4 6 := ⟨RX4, TX4, 8, rfl, uin_X4, by decide, gk_1_157⟩
theorem fi_X4_55 : FI RX4 55 4 6 := ⟨RX4, TX4, 8, tyX4, rfl, uin_X4, by decide, gk_1_157, tyX4_ok, nmX4, rfl, by decide +kernel⟩
theorem mv_X4_58 : MKv RX4 58 yX4_choose cX4_choose 1 none 0 := ⟨⟨gk_3_67, gk_1_5, gk_3_70, by decide +kernel, by decide +kernel, by decide +kernel⟩, gk_3_69, gw_p (q := (⟨"WakeLet$Search", "choose", "()V"⟩, 8)) (List.mem_of_getElem? (i := 19) rfl)⟩
theorem fk_X4_62 : FK RX4 62 4 7 := ⟨RX4, TX4, 8, rfl, uin_X4, by decide, gk_1_159⟩
theorem fi_X4_62 : FI RX4 62 4 7 := ⟨RX4, TX4, 8, tyX4, rfl, uin_X4, by decide, gk_1_159, tyX4_ok, nmX4, rfl, by decide +kernel⟩
theorem mv_X4_65 : MKv RX4 65 yX4_restAll cX4_restAll 4 (some .boolean) 2 := ⟨⟨gk_3_85, gk_1_5, gk_3_88, by decide +kernel, by decide +kernel, by decide +kernel⟩, gk_3_87, gw_p (q := (⟨"WakeLet$Search", "restAll", "(LWakeLet$Agency;I)Z"⟩, 8)) (List.mem_of_getElem? (i := 21) rfl)⟩
theorem ka_X4_69 : KA RX4 69 := ⟨gk_3_71, gk_2_44, gk_2_43, gk_1_9⟩
theorem fk_X4_75 : FK RX4 75 1 0 := ⟨RX1, TX1, 12, rfl, uin_X1, by decide, gk_1_32⟩
theorem fk_X4_78 : FK RX4 78 1 11 := ⟨RX1, TX1, 12, rfl, uin_X1, by decide, gk_1_73⟩
theorem fi_X4_78 : FI RX4 78 1 11 := ⟨RX1, TX1, 12, tyX1, rfl, uin_X1, by decide, gk_1_73, tyX1_ok, nmX1, rfl, by decide +kernel⟩
theorem mv_X4_81 : MKv RX4 81 yX4_findTaken cX4_findTaken 6 none 3 := ⟨⟨gk_3_44, gk_1_5, gk_3_47, by decide +kernel, by decide +kernel, by decide +kernel⟩, gk_3_46, gw_p (q := (⟨"WakeLet$Search", "findTaken", "(LWakeLet$Agency;II)V"⟩, 8)) (List.mem_of_getElem? (i := 16) rfl)⟩
theorem ms_X4_85 : MKs RX4 85 yX1_nextWeight cX1_nextWeight 2 (some .int) 2 := ⟨⟨gk_3_54, gk_1_2, gk_2_193, by decide +kernel, by decide +kernel, by decide +kernel⟩, gk_2_192⟩
theorem ms_X4_89 : MKs RX4 89 yJ6_numberOfTrailingZeros_0f7a4 cJ6_numberOfTrailingZeros_0f7a4 2 (some .int) 1 := ⟨⟨gk_3_48, gk_1_11, gk_3_50, by decide +kernel, by decide +kernel, by decide +kernel⟩, gk_3_49⟩
theorem mv_X4_94 : MKv RX4 94 yX1_takenBy cX1_takenBy 5 (some .int) 3 := ⟨⟨gk_3_52, gk_1_2, gk_2_174, by decide +kernel, by decide +kernel, by decide +kernel⟩, gk_2_172, gk_2_173⟩
theorem km_X4_98 : KMx RX4 98 := ⟨gk_3_53, gk_2_189, gk_1_10, gk_2_190⟩
theorem fk_X4_103 : FK RX4 103 1 8 := ⟨RX1, TX1, 12, rfl, uin_X1, by decide, gk_1_64⟩
theorem fi_X4_103 : FI RX4 103 1 8 := ⟨RX1, TX1, 12, tyX1, rfl, uin_X1, by decide, gk_1_64, tyX1_ok, nmX1, rfl, by decide +kernel⟩
theorem mv_X4_106 : MKv RX4 106 yX1_hasClient cX1_hasClient 2 (some .boolean) 1 := ⟨⟨gk_3_62, gk_1_2, gk_2_126, by decide +kernel, by decide +kernel, by decide +kernel⟩, gk_2_124, gk_2_125⟩
theorem fk_X5_9 : FK RX5 9 5 0 := ⟨RX5, TX5, 5, rfl, uin_X5, by decide, gk_1_107⟩
theorem fk_X5_15 : FK RX5 15 5 1 := ⟨RX5, TX5, 5, rfl, uin_X5, by decide, gk_1_108⟩
theorem fi_X5_15 : FI RX5 15 5 1 := ⟨RX5, TX5, 5, tyX5, rfl, uin_X5, by decide, gk_1_108, tyX5_ok, nmX5, rfl, by decide +kernel⟩
theorem fk_X5_19 : FK RX5 19 5 2 := ⟨RX5, TX5, 5, rfl, uin_X5, by decide, gk_1_110⟩
theorem fi_X5_19 : FI RX5 19 5 2 := ⟨RX5, TX5, 5, tyX5, rfl, uin_X5, by decide, gk_1_110, tyX5_ok, nmX5, rfl, by decide +kernel⟩
theorem fk_X5_22 : FK RX5 22 5 3 := ⟨RX5, TX5, 5, rfl, uin_X5, by decide, gk_1_111⟩
theorem fi_X5_22 : FI RX5 22 5 3 := ⟨RX5, TX5, 5, tyX5, rfl, uin_X5, by decide, gk_1_111, tyX5_ok, nmX5, rfl, by decide +kernel⟩
theorem mv_X5_25 : MKv RX5 25 yX1_close cX1_close 1 none 0 := ⟨⟨gk_2_70, gk_1_2, gk_2_73, by decide +kernel, by decide +kernel, by decide +kernel⟩, gk_2_71, gk_2_72⟩
theorem mv_X5_30 : MKv RX5 30 yX5_readLaw cX5_readLaw 2 none 1 := ⟨⟨gk_2_74, gk_1_3, gk_2_77, by decide +kernel, by decide +kernel, by decide +kernel⟩, gk_2_76, gw_p (q := (⟨"WakeLet$Tape", "readLaw", "(LWakeLet$Agency;)V"⟩, 5)) (List.mem_of_getElem? (i := 2) rfl)⟩
theorem mv_X5_34 : MKv RX5 34 yX5_readClients cX5_readClients 3 none 1 := ⟨⟨gk_2_100, gk_1_3, gk_2_103, by decide +kernel, by decide +kernel, by decide +kernel⟩, gk_2_102, gw_p (q := (⟨"WakeLet$Tape", "readClients", "(LWakeLet$Agency;)V"⟩, 5)) (List.mem_of_getElem? (i := 7) rfl)⟩
theorem mv_X5_37 : MKv RX5 37 yX5_readWakers cX5_readWakers 3 none 1 := ⟨⟨gk_2_108, gk_1_3, gk_2_111, by decide +kernel, by decide +kernel, by decide +kernel⟩, gk_2_110, gw_p (q := (⟨"WakeLet$Tape", "readWakers", "(LWakeLet$Agency;)V"⟩, 5)) (List.mem_of_getElem? (i := 9) rfl)⟩
theorem mv_X5_40 : MKv RX5 40 yX5_fail cX5_fail 3 none 2 := ⟨⟨gk_2_86, gk_1_3, gk_2_89, by decide +kernel, by decide +kernel, by decide +kernel⟩, gk_2_88, gw_p (q := (⟨"WakeLet$Tape", "fail", "(II)V"⟩, 5)) (List.mem_of_getElem? (i := 5) rfl)⟩
theorem mv_X5_44 : MKv RX5 44 yX5_expect cX5_expect 2 none 1 := ⟨⟨gk_2_78, gk_1_3, gk_2_81, by decide +kernel, by decide +kernel, by decide +kernel⟩, gk_2_80, gw_p (q := (⟨"WakeLet$Tape", "expect", "(I)V"⟩, 5)) (List.mem_of_getElem? (i := 3) rfl)⟩
theorem mv_X5_48 : MKv RX5 48 yX5_number cX5_number 5 (some .int) 1 := ⟨⟨gk_2_90, gk_1_3, gk_2_93, by decide +kernel, by decide +kernel, by decide +kernel⟩, gk_2_92, gw_p (q := (⟨"WakeLet$Tape", "number", "(I)I"⟩, 5)) (List.mem_of_getElem? (i := 6) rfl)⟩
theorem fk_X5_52 : FK RX5 52 1 9 := ⟨RX1, TX1, 12, rfl, uin_X1, by decide, gk_1_68⟩
theorem fi_X5_52 : FI RX5 52 1 9 := ⟨RX1, TX1, 12, tyX1, rfl, uin_X1, by decide, gk_1_68, tyX1_ok, nmX1, rfl, by decide +kernel⟩
theorem fk_X5_55 : FK RX5 55 1 10 := ⟨RX1, TX1, 12, rfl, uin_X1, by decide, gk_1_70⟩
theorem fi_X5_55 : FI RX5 55 1 10 := ⟨RX1, TX1, 12, tyX1, rfl, uin_X1, by decide, gk_1_70, tyX1_ok, nmX1, rfl, by decide +kernel⟩
theorem mv_X5_58 : MKv RX5 58 yX5_readClient cX5_readClient 3 none 1 := ⟨⟨gk_2_104, gk_1_3, gk_2_107, by decide +kernel, by decide +kernel, by decide +kernel⟩, gk_2_106, gw_p (q := (⟨"WakeLet$Tape", "readClient", "(LWakeLet$Agency;)V"⟩, 5)) (List.mem_of_getElem? (i := 8) rfl)⟩
theorem mv_X5_61 : MKv RX5 61 yX5_next cX5_next 1 (some .int) 0 := ⟨⟨gk_2_82, gk_1_3, gk_2_85, by decide +kernel, by decide +kernel, by decide +kernel⟩, gk_2_84, gw_p (q := (⟨"WakeLet$Tape", "next", "()I"⟩, 5)) (List.mem_of_getElem? (i := 4) rfl)⟩
theorem fk_X5_65 : FK RX5 65 1 7 := ⟨RX1, TX1, 12, rfl, uin_X1, by decide, gk_1_60⟩
theorem fi_X5_65 : FI RX5 65 1 7 := ⟨RX1, TX1, 12, tyX1, rfl, uin_X1, by decide, gk_1_60, tyX1_ok, nmX1, rfl, by decide +kernel⟩
theorem fk_X5_68 : FK RX5 68 1 0 := ⟨RX1, TX1, 12, rfl, uin_X1, by decide, gk_1_31⟩
theorem fk_X5_71 : FK RX5 71 1 1 := ⟨RX1, TX1, 12, rfl, uin_X1, by decide, gk_1_35⟩
theorem ms_X5_74 : MKs RX5 74 yX5_kindTold cX5_kindTold 1 (some .int) 1 := ⟨⟨gk_2_112, gk_1_3, gk_2_114, by decide +kernel, by decide +kernel, by decide +kernel⟩, gk_2_113⟩
theorem mv_X5_77 : MKv RX5 77 yX5_readWaker cX5_readWaker 3 none 1 := ⟨⟨gk_2_115, gk_1_3, gk_2_118, by decide +kernel, by decide +kernel, by decide +kernel⟩, gk_2_117, gw_p (q := (⟨"WakeLet$Tape", "readWaker", "(LWakeLet$Agency;)V"⟩, 5)) (List.mem_of_getElem? (i := 10) rfl)⟩
theorem fk_X5_80 : FK RX5 80 1 8 := ⟨RX1, TX1, 12, rfl, uin_X1, by decide, gk_1_63⟩
theorem fi_X5_80 : FI RX5 80 1 8 := ⟨RX1, TX1, 12, tyX1, rfl, uin_X1, by decide, gk_1_63, tyX1_ok, nmX1, rfl, by decide +kernel⟩
theorem fk_X5_83 : FK RX5 83 1 2 := ⟨RX1, TX1, 12, rfl, uin_X1, by decide, gk_1_39⟩
theorem fk_X5_86 : FK RX5 86 1 3 := ⟨RX1, TX1, 12, rfl, uin_X1, by decide, gk_1_42⟩
theorem fk_X5_89 : FK RX5 89 1 4 := ⟨RX1, TX1, 12, rfl, uin_X1, by decide, gk_1_47⟩
theorem fk_X5_92 : FK RX5 92 1 5 := ⟨RX1, TX1, 12, rfl, uin_X1, by decide, gk_1_51⟩
theorem mv_X5_95 : MKv RX5 95 yX5_hirer cX5_hirer 4 (some .int) 1 := ⟨⟨gk_2_119, gk_1_3, gk_2_122, by decide +kernel, by decide +kernel, by decide +kernel⟩, gk_2_121, gw_p (q := (⟨"WakeLet$Tape", "hirer", "(LWakeLet$Agency;)I"⟩, 5)) (List.mem_of_getElem? (i := 11) rfl)⟩
theorem fk_X5_99 : FK RX5 99 1 6 := ⟨RX1, TX1, 12, rfl, uin_X1, by decide, gk_1_55⟩
theorem mv_X5_102 : MKv RX5 102 yX1_hasClient cX1_hasClient 2 (some .boolean) 1 := ⟨⟨gk_2_123, gk_1_2, gk_2_126, by decide +kernel, by decide +kernel, by decide +kernel⟩, gk_2_124, gk_2_125⟩
theorem ms_X5_106 : MKs RX5 106 yX5_isFigure cX5_isFigure 1 (some .boolean) 1 := ⟨⟨gk_2_94, gk_1_3, gk_2_96, by decide +kernel, by decide +kernel, by decide +kernel⟩, gk_2_95⟩
theorem km_X5_109 : KMn RX5 109 := ⟨gk_2_97, gk_2_98, gk_1_10, gk_2_99⟩
theorem fk_X5_115 : FK RX5 115 5 4 := ⟨RX5, TX5, 5, rfl, uin_X5, by decide, gk_1_114⟩
theorem fi_X5_115 : FI RX5 115 5 4 := ⟨RX5, TX5, 5, tyX5, rfl, uin_X5, by decide, gk_1_114, tyX5_ok, nmX5, rfl, by decide +kernel⟩
theorem mi_L_9 : MKb RL 9 yX6_init cX6_init 2 none 0 ∧ Cond.instanceMethod yX6_init ∈ gw := ⟨⟨gk_1_14, gk_1_1, gk_1_16, by decide +kernel, by decide +kernel, by decide +kernel⟩, gk_1_15⟩
theorem mi_L_12 : MKb RL 12 yX7_init cX7_init 2 none 0 ∧ Cond.instanceMethod yX7_init ∈ gw := ⟨⟨gk_3_208, gk_1_8, gk_3_210, by decide +kernel, by decide +kernel, by decide +kernel⟩, gk_3_209⟩
theorem mv_L_13 : MKv RL 13 yX6_row cX6_row 4 (some .int) 3 := ⟨⟨gk_2_1, gk_1_1, gk_2_4, by decide +kernel, by decide +kernel, by decide +kernel⟩, gk_2_2, gk_2_3⟩
theorem mv_L_17 : MKv RL 17 yX7_row cX7_row 5 (some .int) 3 := ⟨⟨gk_4_25, gk_1_8, gk_4_28, by decide +kernel, by decide +kernel, by decide +kernel⟩, gk_4_26, gk_4_27⟩
theorem mv_L_18 : MKv RL 18 yX6_set cX6_set 5 (some .int) 3 := ⟨⟨gk_2_22, gk_1_1, gk_2_25, by decide +kernel, by decide +kernel, by decide +kernel⟩, gk_2_23, gk_2_24⟩
theorem mv_L_21 : MKv RL 21 yX7_set cX7_set 4 (some .int) 3 := ⟨⟨gk_4_47, gk_1_8, gk_4_50, by decide +kernel, by decide +kernel, by decide +kernel⟩, gk_4_48, gk_4_49⟩
theorem mv_L_22 : MKv RL 22 yX6_copy cX6_copy 8 (some .int) 5 := ⟨⟨gk_2_38, gk_1_1, gk_2_41, by decide +kernel, by decide +kernel, by decide +kernel⟩, gk_2_39, gk_2_40⟩
theorem mv_L_26 : MKv RL 26 yX7_copy cX7_copy 7 (some .int) 5 := ⟨⟨gk_4_51, gk_1_8, gk_4_54, by decide +kernel, by decide +kernel, by decide +kernel⟩, gk_4_52, gk_4_53⟩
theorem mv_L_27 : MKv RL 27 yX6_drop cX6_drop 3 (some .int) 1 := ⟨⟨gk_2_45, gk_1_1, gk_2_48, by decide +kernel, by decide +kernel, by decide +kernel⟩, gk_2_46, gk_2_47⟩
theorem mv_L_31 : MKv RL 31 yX7_drop cX7_drop 3 (some .int) 1 := ⟨⟨gk_4_58, gk_1_8, gk_4_61, by decide +kernel, by decide +kernel, by decide +kernel⟩, gk_4_59, gk_4_60⟩
theorem mv_L_32 : MKv RL 32 yX6_feed cX6_feed 2 (some .int) 1 := ⟨⟨gk_2_53, gk_1_1, gk_2_56, by decide +kernel, by decide +kernel, by decide +kernel⟩, gk_2_54, gk_2_55⟩
theorem mv_L_35 : MKv RL 35 yX7_feed cX7_feed 2 (some .int) 1 := ⟨⟨gk_4_62, gk_1_8, gk_4_65, by decide +kernel, by decide +kernel, by decide +kernel⟩, gk_4_63, gk_4_64⟩
theorem mv_L_36 : MKv RL 36 yX6_agency cX6_agency 1 (some .int) 0 := ⟨⟨gk_2_62, gk_1_1, gk_2_65, by decide +kernel, by decide +kernel, by decide +kernel⟩, gk_2_63, gk_2_64⟩
theorem mv_L_40 : MKv RL 40 yX7_agency cX7_agency 2 (some .int) 0 := ⟨⟨gk_4_68, gk_1_8, gk_4_71, by decide +kernel, by decide +kernel, by decide +kernel⟩, gk_4_69, gk_4_70⟩
theorem mv_L_41 : MKv RL 41 yX6_fault cX6_fault 1 (some .int) 0 := ⟨⟨gk_2_137, gk_1_1, gk_2_140, by decide +kernel, by decide +kernel, by decide +kernel⟩, gk_2_138, gk_2_139⟩
theorem mv_L_44 : MKv RL 44 yX7_fault cX7_fault 1 (some .int) 0 := ⟨⟨gk_4_114, gk_1_8, gk_4_117, by decide +kernel, by decide +kernel, by decide +kernel⟩, gk_4_115, gk_4_116⟩
theorem mv_L_45 : MKv RL 45 yX6_nights cX6_nights 3 (some .int) 1 := ⟨⟨gk_2_141, gk_1_1, gk_2_144, by decide +kernel, by decide +kernel, by decide +kernel⟩, gk_2_142, gk_2_143⟩
theorem mv_L_48 : MKv RL 48 yX7_nights cX7_nights 3 (some .int) 1 := ⟨⟨gk_4_118, gk_1_8, gk_4_121, by decide +kernel, by decide +kernel, by decide +kernel⟩, gk_4_119, gk_4_120⟩
theorem mv_L_49 : MKv RL 49 yX6_let cX6_let 4 (some .int) 2 := ⟨⟨gk_2_198, gk_1_1, gk_2_201, by decide +kernel, by decide +kernel, by decide +kernel⟩, gk_2_199, gk_2_200⟩
theorem mv_L_53 : MKv RL 53 yX7_let cX7_let 4 (some .int) 2 := ⟨⟨gk_4_158, gk_1_8, gk_4_161, by decide +kernel, by decide +kernel, by decide +kernel⟩, gk_4_159, gk_4_160⟩
theorem mv_L_54 : MKv RL 54 yX6_grow cX6_grow 3 (some .int) 2 := ⟨⟨gk_2_204, gk_1_1, gk_2_207, by decide +kernel, by decide +kernel, by decide +kernel⟩, gk_2_205, gk_2_206⟩
theorem mv_L_57 : MKv RL 57 yX7_grow cX7_grow 3 (some .int) 2 := ⟨⟨gk_4_170, gk_1_8, gk_4_173, by decide +kernel, by decide +kernel, by decide +kernel⟩, gk_4_171, gk_4_172⟩
theorem mv_L_58 : MKv RL 58 yX6_learn cX6_learn 4 (some .int) 2 := ⟨⟨gk_2_212, gk_1_1, gk_2_215, by decide +kernel, by decide +kernel, by decide +kernel⟩, gk_2_213, gk_2_214⟩
theorem mv_L_61 : MKv RL 61 yX7_learn cX7_learn 4 (some .int) 2 := ⟨⟨gk_4_175, gk_1_8, gk_4_178, by decide +kernel, by decide +kernel, by decide +kernel⟩, gk_4_176, gk_4_177⟩
theorem mv_L_62 : MKv RL 62 yX6_undo cX6_undo 1 (some .int) 0 := ⟨⟨gk_2_216, gk_1_1, gk_2_219, by decide +kernel, by decide +kernel, by decide +kernel⟩, gk_2_217, gk_2_218⟩
theorem mv_L_65 : MKv RL 65 yX7_undo cX7_undo 2 (some .int) 0 := ⟨⟨gk_4_180, gk_1_8, gk_4_183, by decide +kernel, by decide +kernel, by decide +kernel⟩, gk_4_181, gk_4_182⟩
theorem mv_L_66 : MKv RL 66 yX6_client cX6_client 3 (some .int) 2 := ⟨⟨gk_2_224, gk_1_1, gk_2_227, by decide +kernel, by decide +kernel, by decide +kernel⟩, gk_2_225, gk_2_226⟩
theorem mv_L_69 : MKv RL 69 yX7_client cX7_client 5 (some .int) 2 := ⟨⟨gk_4_184, gk_1_8, gk_4_187, by decide +kernel, by decide +kernel, by decide +kernel⟩, gk_4_185, gk_4_186⟩
theorem mv_L_70 : MKv RL 70 yX6_waker cX6_waker 3 (some .int) 2 := ⟨⟨gk_2_230, gk_1_1, gk_2_233, by decide +kernel, by decide +kernel, by decide +kernel⟩, gk_2_231, gk_2_232⟩
theorem mv_L_73 : MKv RL 73 yX7_waker cX7_waker 3 (some .int) 2 := ⟨⟨gk_4_188, gk_1_8, gk_4_191, by decide +kernel, by decide +kernel, by decide +kernel⟩, gk_4_189, gk_4_190⟩
theorem mv_L_74 : MKv RL 74 yX6_weight cX6_weight 3 (some .int) 2 := ⟨⟨gk_2_235, gk_1_1, gk_2_238, by decide +kernel, by decide +kernel, by decide +kernel⟩, gk_2_236, gk_2_237⟩
theorem mv_L_77 : MKv RL 77 yX7_weight cX7_weight 3 (some .int) 2 := ⟨⟨gk_4_192, gk_1_8, gk_4_195, by decide +kernel, by decide +kernel, by decide +kernel⟩, gk_4_193, gk_4_194⟩
theorem mv_L_78 : MKv RL 78 yX6_earned cX6_earned 3 (some .int) 2 := ⟨⟨gk_3_3, gk_1_1, gk_3_6, by decide +kernel, by decide +kernel, by decide +kernel⟩, gk_3_4, gk_3_5⟩
theorem mv_L_81 : MKv RL 81 yX7_earned cX7_earned 3 (some .int) 2 := ⟨⟨gk_4_208, gk_1_8, gk_4_211, by decide +kernel, by decide +kernel, by decide +kernel⟩, gk_4_209, gk_4_210⟩
theorem mv_L_82 : MKv RL 82 yX6_rests cX6_rests 2 (some .int) 1 := ⟨⟨gk_3_7, gk_1_1, gk_3_10, by decide +kernel, by decide +kernel, by decide +kernel⟩, gk_3_8, gk_3_9⟩
theorem mv_L_85 : MKv RL 85 yX7_rests cX7_rests 2 (some .int) 1 := ⟨⟨gk_4_212, gk_1_8, gk_4_215, by decide +kernel, by decide +kernel, by decide +kernel⟩, gk_4_213, gk_4_214⟩
theorem mv_L_86 : MKv RL 86 yX6_when cX6_when 2 (some .int) 1 := ⟨⟨gk_3_11, gk_1_1, gk_3_14, by decide +kernel, by decide +kernel, by decide +kernel⟩, gk_3_12, gk_3_13⟩
theorem mv_L_89 : MKv RL 89 yX7_when cX7_when 2 (some .int) 1 := ⟨⟨gk_4_216, gk_1_8, gk_4_219, by decide +kernel, by decide +kernel, by decide +kernel⟩, gk_4_217, gk_4_218⟩
theorem mv_L_90 : MKv RL 90 yX6_all cX6_all 2 (some .int) 1 := ⟨⟨gk_3_20, gk_1_1, gk_3_23, by decide +kernel, by decide +kernel, by decide +kernel⟩, gk_3_21, gk_3_22⟩
theorem mv_L_93 : MKv RL 93 yX7_all cX7_all 2 (some .int) 1 := ⟨⟨gk_4_225, gk_1_8, gk_4_228, by decide +kernel, by decide +kernel, by decide +kernel⟩, gk_4_226, gk_4_227⟩
theorem mv_L_94 : MKv RL 94 yX6_never cX6_never 3 (some .int) 0 := ⟨⟨gk_3_28, gk_1_1, gk_3_31, by decide +kernel, by decide +kernel, by decide +kernel⟩, gk_3_29, gk_3_30⟩
theorem mv_L_97 : MKv RL 97 yX7_never cX7_never 3 (some .int) 0 := ⟨⟨gk_4_233, gk_1_8, gk_4_236, by decide +kernel, by decide +kernel, by decide +kernel⟩, gk_4_234, gk_4_235⟩
theorem mv_L_98 : MKv RL 98 yX6_best cX6_best 3 (some .int) 2 := ⟨⟨gk_3_32, gk_1_1, gk_3_35, by decide +kernel, by decide +kernel, by decide +kernel⟩, gk_3_33, gk_3_34⟩
theorem mv_L_101 : MKv RL 101 yX7_best cX7_best 9 (some .int) 2 := ⟨⟨gk_4_237, gk_1_8, gk_5_0, by decide +kernel, by decide +kernel, by decide +kernel⟩, gk_4_238, gk_4_239⟩
theorem mv_L_102 : MKv RL 102 yX6_fewest cX6_fewest 4 (some .int) 3 := ⟨⟨gk_3_76, gk_1_1, gk_3_79, by decide +kernel, by decide +kernel, by decide +kernel⟩, gk_3_77, gk_3_78⟩
theorem mv_L_105 : MKv RL 105 yX7_fewest cX7_fewest 9 (some .int) 3 := ⟨⟨gk_5_22, gk_1_8, gk_5_25, by decide +kernel, by decide +kernel, by decide +kernel⟩, gk_5_23, gk_5_24⟩
theorem mv_L_106 : MKv RL 106 yX6_fits cX6_fits 9 (some .int) 5 := ⟨⟨gk_3_89, gk_1_1, gk_3_92, by decide +kernel, by decide +kernel, by decide +kernel⟩, gk_3_90, gk_3_91⟩
theorem mv_L_109 : MKv RL 109 yX7_fits cX7_fits 12 (some .int) 5 := ⟨⟨gk_5_27, gk_1_8, gk_5_30, by decide +kernel, by decide +kernel, by decide +kernel⟩, gk_5_28, gk_5_29⟩
theorem mv_L_110 : MKv RL 110 yX6_nods cX6_nods 7 (some .int) 3 := ⟨⟨gk_3_101, gk_1_1, gk_3_104, by decide +kernel, by decide +kernel, by decide +kernel⟩, gk_3_102, gk_3_103⟩
theorem mv_L_113 : MKv RL 113 yX7_nods cX7_nods 9 (some .int) 3 := ⟨⟨gk_5_40, gk_1_8, gk_5_43, by decide +kernel, by decide +kernel, by decide +kernel⟩, gk_5_41, gk_5_42⟩
theorem mv_L_114 : MKv RL 114 yX6_drawn cX6_drawn 8 (some .int) 3 := ⟨⟨gk_3_119, gk_1_1, gk_3_122, by decide +kernel, by decide +kernel, by decide +kernel⟩, gk_3_120, gk_3_121⟩
theorem mv_L_117 : MKv RL 117 yX7_drawn cX7_drawn 10 (some .int) 3 := ⟨⟨gk_5_45, gk_1_8, gk_5_48, by decide +kernel, by decide +kernel, by decide +kernel⟩, gk_5_46, gk_5_47⟩
theorem mv_L_118 : MKv RL 118 yX6_image cX6_image 2 (some .int) 1 := ⟨⟨gk_3_131, gk_1_1, gk_3_134, by decide +kernel, by decide +kernel, by decide +kernel⟩, gk_3_132, gk_3_133⟩
theorem mv_L_121 : MKv RL 121 yX7_image cX7_image 2 (some .int) 1 := ⟨⟨gk_5_52, gk_1_8, gk_5_55, by decide +kernel, by decide +kernel, by decide +kernel⟩, gk_5_53, gk_5_54⟩
theorem mv_L_122 : MKv RL 122 yX6_restore cX6_restore 2 (some .int) 1 := ⟨⟨gk_3_135, gk_1_1, gk_3_138, by decide +kernel, by decide +kernel, by decide +kernel⟩, gk_3_136, gk_3_137⟩
theorem mv_L_125 : MKv RL 125 yX7_restore cX7_restore 2 (some .int) 1 := ⟨⟨gk_5_56, gk_1_8, gk_5_59, by decide +kernel, by decide +kernel, by decide +kernel⟩, gk_5_57, gk_5_58⟩
theorem mv_L_126 : MKv RL 126 yX6_kind cX6_kind 2 (some .int) 1 := ⟨⟨gk_3_139, gk_1_1, gk_3_142, by decide +kernel, by decide +kernel, by decide +kernel⟩, gk_3_140, gk_3_141⟩
theorem mv_L_129 : MKv RL 129 yX7_kind cX7_kind 2 (some .int) 1 := ⟨⟨gk_5_60, gk_1_8, gk_5_63, by decide +kernel, by decide +kernel, by decide +kernel⟩, gk_5_61, gk_5_62⟩
theorem mv_L_130 : MKv RL 130 yX6_as cX6_as 3 (some .int) 2 := ⟨⟨gk_3_143, gk_1_1, gk_3_146, by decide +kernel, by decide +kernel, by decide +kernel⟩, gk_3_144, gk_3_145⟩
theorem mv_L_133 : MKv RL 133 yX7_as cX7_as 5 (some .int) 2 := ⟨⟨gk_5_64, gk_1_8, gk_5_67, by decide +kernel, by decide +kernel, by decide +kernel⟩, gk_5_65, gk_5_66⟩
theorem mv_L_134 : MKv RL 134 yX6_ask cX6_ask 3 (some .int) 2 := ⟨⟨gk_3_155, gk_1_1, gk_3_158, by decide +kernel, by decide +kernel, by decide +kernel⟩, gk_3_156, gk_3_157⟩
theorem mv_L_137 : MKv RL 137 yX7_ask cX7_ask 3 (some .int) 2 := ⟨⟨gk_5_68, gk_1_8, gk_5_71, by decide +kernel, by decide +kernel, by decide +kernel⟩, gk_5_69, gk_5_70⟩
theorem mv_L_138 : MKv RL 138 yX6_trace cX6_trace 2 (some .int) 1 := ⟨⟨gk_3_186, gk_1_1, gk_3_189, by decide +kernel, by decide +kernel, by decide +kernel⟩, gk_3_187, gk_3_188⟩
theorem mv_L_141 : MKv RL 141 yX7_trace cX7_trace 2 (some .int) 1 := ⟨⟨gk_5_100, gk_1_8, gk_5_103, by decide +kernel, by decide +kernel, by decide +kernel⟩, gk_5_101, gk_5_102⟩
theorem mv_L_142 : MKv RL 142 yX6_count cX6_count 2 (some .int) 1 := ⟨⟨gk_3_190, gk_1_1, gk_3_193, by decide +kernel, by decide +kernel, by decide +kernel⟩, gk_3_191, gk_3_192⟩
theorem mv_L_145 : MKv RL 145 yX7_count cX7_count 4 (some .int) 1 := ⟨⟨gk_5_104, gk_1_8, gk_5_107, by decide +kernel, by decide +kernel, by decide +kernel⟩, gk_5_105, gk_5_106⟩
theorem mv_L_146 : MKv RL 146 yX6_status cX6_status 1 (some .int) 0 := ⟨⟨gk_3_202, gk_1_1, gk_3_205, by decide +kernel, by decide +kernel, by decide +kernel⟩, gk_3_203, gk_3_204⟩
theorem mv_L_149 : MKv RL 149 yX7_status cX7_status 1 (some .int) 0 := ⟨⟨gk_5_112, gk_1_8, gk_5_115, by decide +kernel, by decide +kernel, by decide +kernel⟩, gk_5_113, gk_5_114⟩
theorem fk_X7_7 : FK RX7 7 7 0 := ⟨RX7, TX7, 17, rfl, uin_X7, by decide, gk_3_212⟩
theorem fk_X7_13 : FK RX7 13 7 1 := ⟨RX7, TX7, 17, rfl, uin_X7, by decide, gk_3_213⟩
theorem fk_X7_17 : FK RX7 17 7 2 := ⟨RX7, TX7, 17, rfl, uin_X7, by decide, gk_3_214⟩
theorem fk_X7_20 : FK RX7 20 7 4 := ⟨RX7, TX7, 17, rfl, uin_X7, by decide, gk_3_216⟩
theorem fk_X7_23 : FK RX7 23 7 5 := ⟨RX7, TX7, 17, rfl, uin_X7, by decide, gk_3_217⟩
theorem fk_X7_26 : FK RX7 26 7 6 := ⟨RX7, TX7, 17, rfl, uin_X7, by decide, gk_3_218⟩
theorem fk_X7_29 : FK RX7 29 7 8 := ⟨RX7, TX7, 17, rfl, uin_X7, by decide, gk_3_220⟩
theorem fk_X7_32 : FK RX7 32 7 11 := ⟨RX7, TX7, 17, rfl, uin_X7, by decide, gk_3_223⟩
theorem fk_X7_35 : FK RX7 35 7 13 := ⟨RX7, TX7, 17, rfl, uin_X7, by decide, gk_3_225⟩
theorem fk_X7_38 : FK RX7 38 7 7 := ⟨RX7, TX7, 17, rfl, uin_X7, by decide, gk_3_219⟩
theorem fi_X7_38 : FI RX7 38 7 7 := ⟨RX7, TX7, 17, tyX7, rfl, uin_X7, by decide, gk_3_219, tyX7_ok, nmX7, rfl, by decide +kernel⟩
theorem ms_X7_45 : MKs RX7 45 yX7_in cX7_in 6 (some .boolean) 3 := ⟨⟨gk_4_33, gk_1_8, gk_4_35, by decide +kernel, by decide +kernel, by decide +kernel⟩, gk_4_34⟩
theorem ms_X7_49 : MKs RX7 49 yX7_isRow cX7_isRow 1 (some .boolean) 1 := ⟨⟨gk_4_29, gk_1_8, gk_4_31, by decide +kernel, by decide +kernel, by decide +kernel⟩, gk_4_30⟩
theorem mv_X7_56 : MKv RX7 56 yX7_found cX7_found 2 (some .int) 1 := ⟨⟨gk_4_38, gk_1_8, gk_4_41, by decide +kernel, by decide +kernel, by decide +kernel⟩, gk_4_40, gw_p (q := (⟨"WakeLetModel", "found", "(I)I"⟩, 17)) (List.mem_of_getElem? (i := 29) rfl)⟩
theorem mv_X7_60 : MKv RX7 60 yX7_good cX7_good 2 (some .int) 1 := ⟨⟨gk_4_43, gk_1_8, gk_4_46, by decide +kernel, by decide +kernel, by decide +kernel⟩, gk_4_45, gw_p (q := (⟨"WakeLetModel", "good", "(I)I"⟩, 17)) (List.mem_of_getElem? (i := 30) rfl)⟩
theorem ms_X7_63 : MKs RX7 63 yX7_isWithin cX7_isWithin 3 (some .boolean) 3 := ⟨⟨gk_4_55, gk_1_8, gk_4_57, by decide +kernel, by decide +kernel, by decide +kernel⟩, gk_4_56⟩
theorem fk_X7_69 : FK RX7 69 7 9 := ⟨RX7, TX7, 17, rfl, uin_X7, by decide, gk_3_221⟩
theorem fi_X7_69 : FI RX7 69 7 9 := ⟨RX7, TX7, 17, tyX7, rfl, uin_X7, by decide, gk_3_221, tyX7_ok, nmX7, rfl, by decide +kernel⟩
theorem fk_X7_73 : FK RX7 73 7 10 := ⟨RX7, TX7, 17, rfl, uin_X7, by decide, gk_3_222⟩
theorem fi_X7_73 : FI RX7 73 7 10 := ⟨RX7, TX7, 17, tyX7, rfl, uin_X7, by decide, gk_3_222, tyX7_ok, nmX7, rfl, by decide +kernel⟩
theorem fk_X7_76 : FK RX7 76 7 16 := ⟨RX7, TX7, 17, rfl, uin_X7, by decide, gk_3_228⟩
theorem fi_X7_76 : FI RX7 76 7 16 := ⟨RX7, TX7, 17, tyX7, rfl, uin_X7, by decide, gk_3_228, tyX7_ok, nmX7, rfl, by decide +kernel⟩
theorem fk_X7_79 : FK RX7 79 7 14 := ⟨RX7, TX7, 17, rfl, uin_X7, by decide, gk_3_226⟩
theorem fi_X7_79 : FI RX7 79 7 14 := ⟨RX7, TX7, 17, tyX7, rfl, uin_X7, by decide, gk_3_226, tyX7_ok, nmX7, rfl, by decide +kernel⟩
theorem mv_X7_82 : MKv RX7 82 yX7_byteAt cX7_byteAt 2 (some .int) 1 := ⟨⟨gk_4_80, gk_1_8, gk_4_83, by decide +kernel, by decide +kernel, by decide +kernel⟩, gk_4_82, gw_p (q := (⟨"WakeLetModel", "byteAt", "(I)I"⟩, 17)) (List.mem_of_getElem? (i := 33) rfl)⟩
theorem mv_X7_85 : MKv RX7 85 yX7_fails cX7_fails 3 (some .boolean) 2 := ⟨⟨gk_4_84, gk_1_8, gk_4_87, by decide +kernel, by decide +kernel, by decide +kernel⟩, gk_4_86, gw_p (q := (⟨"WakeLetModel", "fails", "(II)Z"⟩, 17)) (List.mem_of_getElem? (i := 34) rfl)⟩
theorem fk_X7_89 : FK RX7 89 7 15 := ⟨RX7, TX7, 17, rfl, uin_X7, by decide, gk_3_227⟩
theorem fi_X7_89 : FI RX7 89 7 15 := ⟨RX7, TX7, 17, tyX7, rfl, uin_X7, by decide, gk_3_227, tyX7_ok, nmX7, rfl, by decide +kernel⟩
theorem mv_X7_96 : MKv RX7 96 yX7_takes cX7_takes 2 (some .boolean) 1 := ⟨⟨gk_4_76, gk_1_8, gk_4_79, by decide +kernel, by decide +kernel, by decide +kernel⟩, gk_4_78, gw_p (q := (⟨"WakeLetModel", "takes", "(I)Z"⟩, 17)) (List.mem_of_getElem? (i := 32) rfl)⟩
theorem mv_X7_99 : MKv RX7 99 yX7_takesNumber cX7_takesNumber 5 (some .boolean) 3 := ⟨⟨gk_4_88, gk_1_8, gk_4_91, by decide +kernel, by decide +kernel, by decide +kernel⟩, gk_4_90, gw_p (q := (⟨"WakeLetModel", "takesNumber", "(III)Z"⟩, 17)) (List.mem_of_getElem? (i := 35) rfl)⟩
theorem ms_X7_102 : MKs RX7 102 yX7_kindOf cX7_kindOf 1 (some .int) 1 := ⟨⟨gk_4_98, gk_1_8, gk_4_100, by decide +kernel, by decide +kernel, by decide +kernel⟩, gk_4_99⟩
theorem mv_X7_105 : MKv RX7 105 yX7_takesClient cX7_takesClient 2 (some .boolean) 0 := ⟨⟨gk_4_101, gk_1_8, gk_4_104, by decide +kernel, by decide +kernel, by decide +kernel⟩, gk_4_103, gw_p (q := (⟨"WakeLetModel", "takesClient", "()Z"⟩, 17)) (List.mem_of_getElem? (i := 37) rfl)⟩
theorem mv_X7_109 : MKv RX7 109 yX7_takesWaker cX7_takesWaker 6 (some .boolean) 1 := ⟨⟨gk_4_105, gk_1_8, gk_4_108, by decide +kernel, by decide +kernel, by decide +kernel⟩, gk_4_107, gw_p (q := (⟨"WakeLetModel", "takesWaker", "(I)Z"⟩, 17)) (List.mem_of_getElem? (i := 38) rfl)⟩
theorem mv_X7_112 : MKv RX7 112 yX7_takesLaw cX7_takesLaw 2 (some .boolean) 0 := ⟨⟨gk_4_72, gk_1_8, gk_4_75, by decide +kernel, by decide +kernel, by decide +kernel⟩, gk_4_74, gw_p (q := (⟨"WakeLetModel", "takesLaw", "()Z"⟩, 17)) (List.mem_of_getElem? (i := 31) rfl)⟩
theorem mv_X7_115 : MKv RX7 115 yX7_takesMore cX7_takesMore 3 (some .boolean) 0 := ⟨⟨gk_4_94, gk_1_8, gk_4_97, by decide +kernel, by decide +kernel, by decide +kernel⟩, gk_4_96, gw_p (q := (⟨"WakeLetModel", "takesMore", "()Z"⟩, 17)) (List.mem_of_getElem? (i := 36) rfl)⟩
theorem mv_X7_119 : MKv RX7 119 yX7_copyAll cX7_copyAll 4 none 2 := ⟨⟨gk_4_110, gk_1_8, gk_4_113, by decide +kernel, by decide +kernel, by decide +kernel⟩, gk_4_112, gw_p (q := (⟨"WakeLetModel", "copyAll", "(II)V"⟩, 17)) (List.mem_of_getElem? (i := 39) rfl)⟩
theorem fk_X7_123 : FK RX7 123 7 3 := ⟨RX7, TX7, 17, rfl, uin_X7, by decide, gk_3_215⟩
theorem fi_X7_123 : FI RX7 123 7 3 := ⟨RX7, TX7, 17, tyX7, rfl, uin_X7, by decide, gk_3_215, tyX7_ok, nmX7, rfl, by decide +kernel⟩
theorem mv_X7_126 : MKv RX7 126 yX7_isFit cX7_isFit 3 (some .boolean) 2 := ⟨⟨gk_4_143, gk_1_8, gk_4_146, by decide +kernel, by decide +kernel, by decide +kernel⟩, gk_4_145, gw_p (q := (⟨"WakeLetModel", "isFit", "(II)Z"⟩, 17)) (List.mem_of_getElem? (i := 44) rfl)⟩
theorem ms_X7_129 : MKs RX7 129 yX7_guards cX7_guards 2 (some .int) 2 := ⟨⟨gk_4_151, gk_1_8, gk_4_153, by decide +kernel, by decide +kernel, by decide +kernel⟩, gk_4_152⟩
theorem ms_X7_133 : MKs RX7 133 yX7_has cX7_has 2 (some .boolean) 2 := ⟨⟨gk_4_140, gk_1_8, gk_4_142, by decide +kernel, by decide +kernel, by decide +kernel⟩, gk_4_141⟩
theorem mv_X7_136 : MKv RX7 136 yX7_lies cX7_lies 6 (some .int) 2 := ⟨⟨gk_4_147, gk_1_8, gk_4_150, by decide +kernel, by decide +kernel, by decide +kernel⟩, gk_4_149, gw_p (q := (⟨"WakeLetModel", "lies", "(II)I"⟩, 17)) (List.mem_of_getElem? (i := 45) rfl)⟩
theorem mv_X7_139 : MKv RX7 139 yX7_lighter cX7_lighter 7 (some .int) 3 := ⟨⟨gk_4_136, gk_1_8, gk_4_139, by decide +kernel, by decide +kernel, by decide +kernel⟩, gk_4_138, gw_p (q := (⟨"WakeLetModel", "lighter", "(III)I"⟩, 17)) (List.mem_of_getElem? (i := 43) rfl)⟩
theorem mv_X7_143 : MKv RX7 143 yX7_isAgency cX7_isAgency 1 (some .boolean) 0 := ⟨⟨gk_4_122, gk_1_8, gk_4_125, by decide +kernel, by decide +kernel, by decide +kernel⟩, gk_4_124, gw_p (q := (⟨"WakeLetModel", "isAgency", "()Z"⟩, 17)) (List.mem_of_getElem? (i := 40) rfl)⟩
theorem mv_X7_149 : MKv RX7 149 yX7_minds cX7_minds 2 none 0 := ⟨⟨gk_4_128, gk_1_8, gk_4_131, by decide +kernel, by decide +kernel, by decide +kernel⟩, gk_4_130, gw_p (q := (⟨"WakeLetModel", "minds", "()V"⟩, 17)) (List.mem_of_getElem? (i := 41) rfl)⟩
theorem mv_X7_152 : MKv RX7 152 yX7_passes cX7_passes 7 none 2 := ⟨⟨gk_4_132, gk_1_8, gk_4_135, by decide +kernel, by decide +kernel, by decide +kernel⟩, gk_4_134, gw_p (q := (⟨"WakeLetModel", "passes", "(II)V"⟩, 17)) (List.mem_of_getElem? (i := 42) rfl)⟩
theorem mv_X7_155 : MKv RX7 155 yX7_restsIn cX7_restsIn 4 (some .int) 1 := ⟨⟨gk_4_154, gk_1_8, gk_4_157, by decide +kernel, by decide +kernel, by decide +kernel⟩, gk_4_156, gw_p (q := (⟨"WakeLetModel", "restsIn", "(I)I"⟩, 17)) (List.mem_of_getElem? (i := 46) rfl)⟩
theorem mv_X7_158 : MKv RX7 158 yX7_isWaker cX7_isWaker 2 (some .boolean) 1 := ⟨⟨gk_4_162, gk_1_8, gk_4_165, by decide +kernel, by decide +kernel, by decide +kernel⟩, gk_4_164, gw_p (q := (⟨"WakeLetModel", "isWaker", "(I)Z"⟩, 17)) (List.mem_of_getElem? (i := 47) rfl)⟩
theorem mv_X7_161 : MKv RX7 161 yX7_isClient cX7_isClient 2 (some .boolean) 1 := ⟨⟨gk_4_166, gk_1_8, gk_4_169, by decide +kernel, by decide +kernel, by decide +kernel⟩, gk_4_168, gw_p (q := (⟨"WakeLetModel", "isClient", "(I)Z"⟩, 17)) (List.mem_of_getElem? (i := 48) rfl)⟩
theorem mv_X7_170 : MKv RX7 170 yX7_tries cX7_tries 3 none 1 := ⟨⟨gk_4_204, gk_1_8, gk_4_207, by decide +kernel, by decide +kernel, by decide +kernel⟩, gk_4_206, gw_p (q := (⟨"WakeLetModel", "tries", "(I)V"⟩, 17)) (List.mem_of_getElem? (i := 50) rfl)⟩
theorem ms_X7_174 : MKs RX7 174 yX7_isSpan cX7_isSpan 1 (some .boolean) 1 := ⟨⟨gk_4_196, gk_1_8, gk_4_198, by decide +kernel, by decide +kernel, by decide +kernel⟩, gk_4_197⟩
theorem mv_X7_177 : MKv RX7 177 yX7_triesFrom cX7_triesFrom 2 none 1 := ⟨⟨gk_4_200, gk_1_8, gk_4_203, by decide +kernel, by decide +kernel, by decide +kernel⟩, gk_4_202, gw_p (q := (⟨"WakeLetModel", "triesFrom", "(I)V"⟩, 17)) (List.mem_of_getElem? (i := 49) rfl)⟩
theorem mv_X7_181 : MKv RX7 181 yX7_firstOf cX7_firstOf 3 (some .int) 1 := ⟨⟨gk_4_220, gk_1_8, gk_4_223, by decide +kernel, by decide +kernel, by decide +kernel⟩, gk_4_222, gw_p (q := (⟨"WakeLetModel", "firstOf", "(I)I"⟩, 17)) (List.mem_of_getElem? (i := 51) rfl)⟩
theorem mv_X7_184 : MKv RX7 184 yX7_isSet cX7_isSet 2 (some .boolean) 1 := ⟨⟨gk_4_229, gk_1_8, gk_4_232, by decide +kernel, by decide +kernel, by decide +kernel⟩, gk_4_231, gw_p (q := (⟨"WakeLetModel", "isSet", "(I)Z"⟩, 17)) (List.mem_of_getElem? (i := 52) rfl)⟩
theorem mv_X7_187 : MKv RX7 187 yX7_letBy cX7_letBy 5 (some .int) 2 := ⟨⟨gk_5_11, gk_1_8, gk_5_14, by decide +kernel, by decide +kernel, by decide +kernel⟩, gk_5_13, gw_p (q := (⟨"WakeLetModel", "letBy", "(II)I"⟩, 17)) (List.mem_of_getElem? (i := 55) rfl)⟩
theorem mv_X7_194 : MKv RX7 194 yX7_allLets cX7_allLets 3 (some .int) 0 := ⟨⟨gk_5_3, gk_1_8, gk_5_6, by decide +kernel, by decide +kernel, by decide +kernel⟩, gk_5_5, gw_p (q := (⟨"WakeLetModel", "allLets", "()I"⟩, 17)) (List.mem_of_getElem? (i := 53) rfl)⟩
theorem mv_X7_198 : MKv RX7 198 yX7_triesLets cX7_triesLets 5 (some .int) 2 := ⟨⟨gk_5_7, gk_1_8, gk_5_10, by decide +kernel, by decide +kernel, by decide +kernel⟩, gk_5_9, gw_p (q := (⟨"WakeLetModel", "triesLets", "(II)I"⟩, 17)) (List.mem_of_getElem? (i := 54) rfl)⟩
theorem ms_X7_201 : MKs RX7 201 yX7_ones cX7_ones 3 (some .int) 1 := ⟨⟨gk_5_15, gk_1_8, gk_5_17, by decide +kernel, by decide +kernel, by decide +kernel⟩, gk_5_16⟩
theorem mv_X7_204 : MKv RX7 204 yX7_weightsIn cX7_weightsIn 4 (some .int) 1 := ⟨⟨gk_5_18, gk_1_8, gk_5_21, by decide +kernel, by decide +kernel, by decide +kernel⟩, gk_5_20, gw_p (q := (⟨"WakeLetModel", "weightsIn", "(I)I"⟩, 17)) (List.mem_of_getElem? (i := 56) rfl)⟩
theorem mv_X7_211 : MKv RX7 211 yX7_against cX7_against 4 (some .int) 3 := ⟨⟨gk_5_32, gk_1_8, gk_5_35, by decide +kernel, by decide +kernel, by decide +kernel⟩, gk_5_34, gw_p (q := (⟨"WakeLetModel", "against", "(III)I"⟩, 17)) (List.mem_of_getElem? (i := 57) rfl)⟩
theorem mv_X7_214 : MKv RX7 214 yX7_isSo cX7_isSo 5 (some .boolean) 2 := ⟨⟨gk_5_36, gk_1_8, gk_5_39, by decide +kernel, by decide +kernel, by decide +kernel⟩, gk_5_38, gw_p (q := (⟨"WakeLetModel", "isSo", "(II)Z"⟩, 17)) (List.mem_of_getElem? (i := 58) rfl)⟩
theorem fk_X7_225 : FK RX7 225 7 12 := ⟨RX7, TX7, 17, rfl, uin_X7, by decide, gk_3_224⟩
theorem fi_X7_225 : FI RX7 225 7 12 := ⟨RX7, TX7, 17, tyX7, rfl, uin_X7, by decide, gk_3_224, tyX7_ok, nmX7, rfl, by decide +kernel⟩
theorem mv_X7_228 : MKv RX7 228 yX7_leaves cX7_leaves 2 none 1 := ⟨⟨gk_5_76, gk_1_8, gk_5_79, by decide +kernel, by decide +kernel, by decide +kernel⟩, gk_5_78, gw_p (q := (⟨"WakeLetModel", "leaves", "(I)V"⟩, 17)) (List.mem_of_getElem? (i := 60) rfl)⟩
theorem mv_X7_231 : MKv RX7 231 yX7_markLent cX7_markLent 2 (some .int) 1 := ⟨⟨gk_5_92, gk_1_8, gk_5_95, by decide +kernel, by decide +kernel, by decide +kernel⟩, gk_5_94, gw_p (q := (⟨"WakeLetModel", "markLent", "(I)I"⟩, 17)) (List.mem_of_getElem? (i := 64) rfl)⟩
theorem mv_X7_234 : MKv RX7 234 yX7_markOwl cX7_markOwl 2 (some .int) 1 := ⟨⟨gk_5_88, gk_1_8, gk_5_91, by decide +kernel, by decide +kernel, by decide +kernel⟩, gk_5_90, gw_p (q := (⟨"WakeLetModel", "markOwl", "(I)I"⟩, 17)) (List.mem_of_getElem? (i := 63) rfl)⟩
theorem mv_X7_237 : MKv RX7 237 yX7_sizeGuard cX7_sizeGuard 4 (some .int) 2 := ⟨⟨gk_5_96, gk_1_8, gk_5_99, by decide +kernel, by decide +kernel, by decide +kernel⟩, gk_5_98, gw_p (q := (⟨"WakeLetModel", "sizeGuard", "(IZ)I"⟩, 17)) (List.mem_of_getElem? (i := 65) rfl)⟩
theorem mv_X7_241 : MKv RX7 241 yX7_mark cX7_mark 3 (some .int) 1 := ⟨⟨gk_5_84, gk_1_8, gk_5_87, by decide +kernel, by decide +kernel, by decide +kernel⟩, gk_5_86, gw_p (q := (⟨"WakeLetModel", "mark", "(I)I"⟩, 17)) (List.mem_of_getElem? (i := 62) rfl)⟩
theorem mv_X7_244 : MKv RX7 244 yX7_sizeOwl cX7_sizeOwl 2 (some .int) 1 := ⟨⟨gk_5_80, gk_1_8, gk_5_83, by decide +kernel, by decide +kernel, by decide +kernel⟩, gk_5_82, gw_p (q := (⟨"WakeLetModel", "sizeOwl", "(I)I"⟩, 17)) (List.mem_of_getElem? (i := 61) rfl)⟩
theorem mv_X7_247 : MKv RX7 247 yX7_size cX7_size 3 (some .int) 1 := ⟨⟨gk_5_72, gk_1_8, gk_5_75, by decide +kernel, by decide +kernel, by decide +kernel⟩, gk_5_74, gw_p (q := (⟨"WakeLetModel", "size", "(I)I"⟩, 17)) (List.mem_of_getElem? (i := 59) rfl)⟩
theorem mv_X7_250 : MKv RX7 250 yX7_earnedOfAll cX7_earnedOfAll 3 (some .int) 0 := ⟨⟨gk_5_108, gk_1_8, gk_5_111, by decide +kernel, by decide +kernel, by decide +kernel⟩, gk_5_110, gw_p (q := (⟨"WakeLetModel", "earnedOfAll", "()I"⟩, 17)) (List.mem_of_getElem? (i := 66) rfl)⟩
end
