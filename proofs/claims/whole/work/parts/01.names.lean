-- ===== PART A: goes FIRST, ahead of the names: the tables' words, and 'selects' of the private methods out of them =====
/-- a private method of a class that the tables say can be made, by its rows of tables_1 -/
def lw_okq (q : MethodName × Nat) : Prop := (q.1.cls ≠ "java/lang/invoke/MethodHandle" ∧ q.1.cls ≠ "java/lang/invoke/VarHandle") ∧ Cond.instantiable q.1.cls q.2 ∈ tables_1 ∧ Cond.privateMethod q.1 ∈ tables_1 ∧ Cond.instanceMethod q.1 ∈ tables_1
theorem lw_p0 : lw_okq (⟨"DoorIsHeld", "refuse", "(I)I"⟩, 12) := ⟨⟨by decide +kernel, by decide +kernel⟩, List.mem_of_getElem? (i := 14) (by decide +kernel), List.mem_of_getElem? (i := 180) (by decide +kernel), List.mem_of_getElem? (i := 181) (by decide +kernel)⟩
theorem lw_p1 : lw_okq (⟨"DoorIsHeld$Letters", "begin", "()V"⟩, 5) := ⟨⟨by decide +kernel, by decide +kernel⟩, List.mem_of_getElem? (i := 68) (by decide +kernel), List.mem_of_getElem? (i := 201) (by decide +kernel), List.mem_of_getElem? (i := 202) (by decide +kernel)⟩
theorem lw_p2 : lw_okq (⟨"DoorIsHeld$Letters", "readStatement", "()I"⟩, 5) := ⟨⟨by decide +kernel, by decide +kernel⟩, List.mem_of_getElem? (i := 68) (by decide +kernel), List.mem_of_getElem? (i := 205) (by decide +kernel), List.mem_of_getElem? (i := 206) (by decide +kernel)⟩
theorem lw_p3 : lw_okq (⟨"DoorIsHeld$Letters", "here", "()I"⟩, 5) := ⟨⟨by decide +kernel, by decide +kernel⟩, List.mem_of_getElem? (i := 68) (by decide +kernel), List.mem_of_getElem? (i := 209) (by decide +kernel), List.mem_of_getElem? (i := 210) (by decide +kernel)⟩
theorem lw_p4 : lw_okq (⟨"DoorIsHeld$Letters", "readDigits", "(II)V"⟩, 5) := ⟨⟨by decide +kernel, by decide +kernel⟩, List.mem_of_getElem? (i := 68) (by decide +kernel), List.mem_of_getElem? (i := 213) (by decide +kernel), List.mem_of_getElem? (i := 214) (by decide +kernel)⟩
theorem lw_p5 : lw_okq (⟨"DoorIsHeld$Letters", "isDigitHere", "()Z"⟩, 5) := ⟨⟨by decide +kernel, by decide +kernel⟩, List.mem_of_getElem? (i := 68) (by decide +kernel), List.mem_of_getElem? (i := 217) (by decide +kernel), List.mem_of_getElem? (i := 218) (by decide +kernel)⟩
theorem lw_p6 : lw_okq (⟨"DoorIsHeld$Letters", "take", "(Z)V"⟩, 5) := ⟨⟨by decide +kernel, by decide +kernel⟩, List.mem_of_getElem? (i := 68) (by decide +kernel), List.mem_of_getElem? (i := 221) (by decide +kernel), List.mem_of_getElem? (i := 222) (by decide +kernel)⟩
theorem lw_p7 : lw_okq (⟨"DoorIsHeld$Letters", "readNumber", "(I)V"⟩, 5) := ⟨⟨by decide +kernel, by decide +kernel⟩, List.mem_of_getElem? (i := 68) (by decide +kernel), List.mem_of_getElem? (i := 225) (by decide +kernel), List.mem_of_getElem? (i := 226) (by decide +kernel)⟩
theorem lw_p8 : lw_okq (⟨"DoorIsHeld$Letters", "readKind", "()V"⟩, 5) := ⟨⟨by decide +kernel, by decide +kernel⟩, List.mem_of_getElem? (i := 68) (by decide +kernel), List.mem_of_getElem? (i := 230) (by decide +kernel), List.mem_of_getElem? (i := 231) (by decide +kernel)⟩
theorem lw_p9 : lw_okq (⟨"DoorIsHeld$Letters", "readSign", "(C)V"⟩, 5) := ⟨⟨by decide +kernel, by decide +kernel⟩, List.mem_of_getElem? (i := 68) (by decide +kernel), List.mem_of_getElem? (i := 321) (by decide +kernel), List.mem_of_getElem? (i := 322) (by decide +kernel)⟩
theorem lw_p10 : lw_okq (⟨"DoorIsHeld$Letters", "isAsItMustBe", "(II)Z"⟩, 5) := ⟨⟨by decide +kernel, by decide +kernel⟩, List.mem_of_getElem? (i := 68) (by decide +kernel), List.mem_of_getElem? (i := 325) (by decide +kernel), List.mem_of_getElem? (i := 326) (by decide +kernel)⟩
theorem lw_p11 : lw_okq (⟨"DoorIsHeld$Letters", "bringStatement", "(LDoorIsHeld$Told;I)V"⟩, 5) := ⟨⟨by decide +kernel, by decide +kernel⟩, List.mem_of_getElem? (i := 68) (by decide +kernel), List.mem_of_getElem? (i := 339) (by decide +kernel), List.mem_of_getElem? (i := 340) (by decide +kernel)⟩
theorem lw_p12 : lw_okq (⟨"DoorIsHeld$Going", "findNext", "()I"⟩, 11) := ⟨⟨by decide +kernel, by decide +kernel⟩, List.mem_of_getElem? (i := 91) (by decide +kernel), List.mem_of_getElem? (i := 422) (by decide +kernel), List.mem_of_getElem? (i := 423) (by decide +kernel)⟩
theorem lw_p13 : lw_okq (⟨"DoorIsHeld$Going", "comeThrough", "(LDoorIsHeld$Told;II)V"⟩, 11) := ⟨⟨by decide +kernel, by decide +kernel⟩, List.mem_of_getElem? (i := 91) (by decide +kernel), List.mem_of_getElem? (i := 427) (by decide +kernel), List.mem_of_getElem? (i := 428) (by decide +kernel)⟩
theorem lw_p14 : lw_okq (⟨"DoorIsHeld$Going", "secondsHeldFor", "(LDoorIsHeld$Told;II)I"⟩, 11) := ⟨⟨by decide +kernel, by decide +kernel⟩, List.mem_of_getElem? (i := 91) (by decide +kernel), List.mem_of_getElem? (i := 443) (by decide +kernel), List.mem_of_getElem? (i := 444) (by decide +kernel)⟩
theorem lw_p15 : lw_okq (⟨"DoorIsHeld", "answerOf", "([II)I"⟩, 12) := ⟨⟨by decide +kernel, by decide +kernel⟩, List.mem_of_getElem? (i := 14) (by decide +kernel), List.mem_of_getElem? (i := 457) (by decide +kernel), List.mem_of_getElem? (i := 458) (by decide +kernel)⟩
def lw_privs_1 : List (MethodName × Nat) := [(⟨"DoorIsHeld", "refuse", "(I)I"⟩, 12), (⟨"DoorIsHeld$Letters", "begin", "()V"⟩, 5), (⟨"DoorIsHeld$Letters", "readStatement", "()I"⟩, 5), (⟨"DoorIsHeld$Letters", "here", "()I"⟩, 5), (⟨"DoorIsHeld$Letters", "readDigits", "(II)V"⟩, 5), (⟨"DoorIsHeld$Letters", "isDigitHere", "()Z"⟩, 5), (⟨"DoorIsHeld$Letters", "take", "(Z)V"⟩, 5), (⟨"DoorIsHeld$Letters", "readNumber", "(I)V"⟩, 5), (⟨"DoorIsHeld$Letters", "readKind", "()V"⟩, 5), (⟨"DoorIsHeld$Letters", "readSign", "(C)V"⟩, 5), (⟨"DoorIsHeld$Letters", "isAsItMustBe", "(II)Z"⟩, 5), (⟨"DoorIsHeld$Letters", "bringStatement", "(LDoorIsHeld$Told;I)V"⟩, 5), (⟨"DoorIsHeld$Going", "findNext", "()I"⟩, 11), (⟨"DoorIsHeld$Going", "comeThrough", "(LDoorIsHeld$Told;II)V"⟩, 11), (⟨"DoorIsHeld$Going", "secondsHeldFor", "(LDoorIsHeld$Told;II)I"⟩, 11), (⟨"DoorIsHeld", "answerOf", "([II)I"⟩, 12)]
theorem lw_r1 : ∀ q ∈ lw_privs_1, lw_okq q := List.forall_mem_cons.mpr ⟨lw_p0, List.forall_mem_cons.mpr ⟨lw_p1, List.forall_mem_cons.mpr ⟨lw_p2, List.forall_mem_cons.mpr ⟨lw_p3, List.forall_mem_cons.mpr ⟨lw_p4, List.forall_mem_cons.mpr ⟨lw_p5, List.forall_mem_cons.mpr ⟨lw_p6, List.forall_mem_cons.mpr ⟨lw_p7, List.forall_mem_cons.mpr ⟨lw_p8, List.forall_mem_cons.mpr ⟨lw_p9, List.forall_mem_cons.mpr ⟨lw_p10, List.forall_mem_cons.mpr ⟨lw_p11, List.forall_mem_cons.mpr ⟨lw_p12, List.forall_mem_cons.mpr ⟨lw_p13, List.forall_mem_cons.mpr ⟨lw_p14, List.forall_mem_cons.mpr ⟨lw_p15, fun _ h => absurd h List.not_mem_nil⟩⟩⟩⟩⟩⟩⟩⟩⟩⟩⟩⟩⟩⟩⟩⟩
theorem lw_p16 : lw_okq (⟨"DoorIsHeld", "allLoss", "(LDoorIsHeld$Told;)I"⟩, 12) := ⟨⟨by decide +kernel, by decide +kernel⟩, List.mem_of_getElem? (i := 14) (by decide +kernel), List.mem_of_getElem? (i := 485) (by decide +kernel), List.mem_of_getElem? (i := 486) (by decide +kernel)⟩
theorem lw_p17 : lw_okq (⟨"DoorIsHeld", "leastLossOver", "(II)I"⟩, 12) := ⟨⟨by decide +kernel, by decide +kernel⟩, List.mem_of_getElem? (i := 14) (by decide +kernel), List.mem_of_getElem? (i := 542) (by decide +kernel), List.mem_of_getElem? (i := 543) (by decide +kernel)⟩
theorem lw_p18 : lw_okq (⟨"DoorIsHeld", "runByNever", "()V"⟩, 12) := ⟨⟨by decide +kernel, by decide +kernel⟩, List.mem_of_getElem? (i := 14) (by decide +kernel), List.mem_of_getElem? (i := 558) (by decide +kernel), List.mem_of_getElem? (i := 559) (by decide +kernel)⟩
theorem lw_p19 : lw_okq (⟨"DoorIsHeld", "refusalOfFilm", "(IIZ)I"⟩, 12) := ⟨⟨by decide +kernel, by decide +kernel⟩, List.mem_of_getElem? (i := 14) (by decide +kernel), List.mem_of_getElem? (i := 583) (by decide +kernel), List.mem_of_getElem? (i := 584) (by decide +kernel)⟩
theorem lw_p20 : lw_okq (⟨"DoorIsHeldModel", "no", "(I)I"⟩, 41) := ⟨⟨by decide +kernel, by decide +kernel⟩, List.mem_of_getElem? (i := 644) (by decide +kernel), List.mem_of_getElem? (i := 781) (by decide +kernel), List.mem_of_getElem? (i := 782) (by decide +kernel)⟩
theorem lw_p21 : lw_okq (⟨"DoorIsHeldModel", "statement", "()Z"⟩, 41) := ⟨⟨by decide +kernel, by decide +kernel⟩, List.mem_of_getElem? (i := 644) (by decide +kernel), List.mem_of_getElem? (i := 789) (by decide +kernel), List.mem_of_getElem? (i := 790) (by decide +kernel)⟩
theorem lw_p22 : lw_okq (⟨"DoorIsHeldModel", "next", "()I"⟩, 41) := ⟨⟨by decide +kernel, by decide +kernel⟩, List.mem_of_getElem? (i := 644) (by decide +kernel), List.mem_of_getElem? (i := 793) (by decide +kernel), List.mem_of_getElem? (i := 794) (by decide +kernel)⟩
theorem lw_p23 : lw_okq (⟨"DoorIsHeldModel", "readsOnes", "(II)Z"⟩, 41) := ⟨⟨by decide +kernel, by decide +kernel⟩, List.mem_of_getElem? (i := 644) (by decide +kernel), List.mem_of_getElem? (i := 797) (by decide +kernel), List.mem_of_getElem? (i := 798) (by decide +kernel)⟩
theorem lw_p24 : lw_okq (⟨"DoorIsHeldModel", "reads", "(II)Z"⟩, 41) := ⟨⟨by decide +kernel, by decide +kernel⟩, List.mem_of_getElem? (i := 644) (by decide +kernel), List.mem_of_getElem? (i := 801) (by decide +kernel), List.mem_of_getElem? (i := 802) (by decide +kernel)⟩
theorem lw_p25 : lw_okq (⟨"DoorIsHeldModel", "readsWalker", "(I)Z"⟩, 41) := ⟨⟨by decide +kernel, by decide +kernel⟩, List.mem_of_getElem? (i := 644) (by decide +kernel), List.mem_of_getElem? (i := 808) (by decide +kernel), List.mem_of_getElem? (i := 809) (by decide +kernel)⟩
theorem lw_p26 : lw_okq (⟨"DoorIsHeldModel", "isNext", "(I)Z"⟩, 41) := ⟨⟨by decide +kernel, by decide +kernel⟩, List.mem_of_getElem? (i := 644) (by decide +kernel), List.mem_of_getElem? (i := 815) (by decide +kernel), List.mem_of_getElem? (i := 816) (by decide +kernel)⟩
theorem lw_p27 : lw_okq (⟨"DoorIsHeldModel", "passesAll", "(IZ)V"⟩, 41) := ⟨⟨by decide +kernel, by decide +kernel⟩, List.mem_of_getElem? (i := 644) (by decide +kernel), List.mem_of_getElem? (i := 819) (by decide +kernel), List.mem_of_getElem? (i := 820) (by decide +kernel)⟩
theorem lw_p28 : lw_okq (⟨"DoorIsHeldModel", "passes", "([I)V"⟩, 41) := ⟨⟨by decide +kernel, by decide +kernel⟩, List.mem_of_getElem? (i := 644) (by decide +kernel), List.mem_of_getElem? (i := 823) (by decide +kernel), List.mem_of_getElem? (i := 824) (by decide +kernel)⟩
theorem lw_p29 : lw_okq (⟨"DoorIsHeldModel", "passOne", "(I)I"⟩, 41) := ⟨⟨by decide +kernel, by decide +kernel⟩, List.mem_of_getElem? (i := 644) (by decide +kernel), List.mem_of_getElem? (i := 827) (by decide +kernel), List.mem_of_getElem? (i := 828) (by decide +kernel)⟩
theorem lw_p30 : lw_okq (⟨"DoorIsHeldModel", "comesAs", "(I)Z"⟩, 41) := ⟨⟨by decide +kernel, by decide +kernel⟩, List.mem_of_getElem? (i := 644) (by decide +kernel), List.mem_of_getElem? (i := 831) (by decide +kernel), List.mem_of_getElem? (i := 832) (by decide +kernel)⟩
theorem lw_p31 : lw_okq (⟨"DoorIsHeldModel", "comesWalker", "(I)Z"⟩, 41) := ⟨⟨by decide +kernel, by decide +kernel⟩, List.mem_of_getElem? (i := 644) (by decide +kernel), List.mem_of_getElem? (i := 835) (by decide +kernel), List.mem_of_getElem? (i := 836) (by decide +kernel)⟩
def lw_privs_2 : List (MethodName × Nat) := [(⟨"DoorIsHeld", "allLoss", "(LDoorIsHeld$Told;)I"⟩, 12), (⟨"DoorIsHeld", "leastLossOver", "(II)I"⟩, 12), (⟨"DoorIsHeld", "runByNever", "()V"⟩, 12), (⟨"DoorIsHeld", "refusalOfFilm", "(IIZ)I"⟩, 12), (⟨"DoorIsHeldModel", "no", "(I)I"⟩, 41), (⟨"DoorIsHeldModel", "statement", "()Z"⟩, 41), (⟨"DoorIsHeldModel", "next", "()I"⟩, 41), (⟨"DoorIsHeldModel", "readsOnes", "(II)Z"⟩, 41), (⟨"DoorIsHeldModel", "reads", "(II)Z"⟩, 41), (⟨"DoorIsHeldModel", "readsWalker", "(I)Z"⟩, 41), (⟨"DoorIsHeldModel", "isNext", "(I)Z"⟩, 41), (⟨"DoorIsHeldModel", "passesAll", "(IZ)V"⟩, 41), (⟨"DoorIsHeldModel", "passes", "([I)V"⟩, 41), (⟨"DoorIsHeldModel", "passOne", "(I)I"⟩, 41), (⟨"DoorIsHeldModel", "comesAs", "(I)Z"⟩, 41), (⟨"DoorIsHeldModel", "comesWalker", "(I)Z"⟩, 41)]
theorem lw_r2 : ∀ q ∈ lw_privs_2, lw_okq q := List.forall_mem_cons.mpr ⟨lw_p16, List.forall_mem_cons.mpr ⟨lw_p17, List.forall_mem_cons.mpr ⟨lw_p18, List.forall_mem_cons.mpr ⟨lw_p19, List.forall_mem_cons.mpr ⟨lw_p20, List.forall_mem_cons.mpr ⟨lw_p21, List.forall_mem_cons.mpr ⟨lw_p22, List.forall_mem_cons.mpr ⟨lw_p23, List.forall_mem_cons.mpr ⟨lw_p24, List.forall_mem_cons.mpr ⟨lw_p25, List.forall_mem_cons.mpr ⟨lw_p26, List.forall_mem_cons.mpr ⟨lw_p27, List.forall_mem_cons.mpr ⟨lw_p28, List.forall_mem_cons.mpr ⟨lw_p29, List.forall_mem_cons.mpr ⟨lw_p30, List.forall_mem_cons.mpr ⟨lw_p31, fun _ h => absurd h List.not_mem_nil⟩⟩⟩⟩⟩⟩⟩⟩⟩⟩⟩⟩⟩⟩⟩⟩
theorem lw_p32 : lw_okq (⟨"DoorIsHeldModel", "isWalker", "(I)Z"⟩, 41) := ⟨⟨by decide +kernel, by decide +kernel⟩, List.mem_of_getElem? (i := 644) (by decide +kernel), List.mem_of_getElem? (i := 851) (by decide +kernel), List.mem_of_getElem? (i := 852) (by decide +kernel)⟩
theorem lw_p33 : lw_okq (⟨"DoorIsHeldModel", "heldYards", "(I)I"⟩, 41) := ⟨⟨by decide +kernel, by decide +kernel⟩, List.mem_of_getElem? (i := 644) (by decide +kernel), List.mem_of_getElem? (i := 855) (by decide +kernel), List.mem_of_getElem? (i := 856) (by decide +kernel)⟩
theorem lw_p34 : lw_okq (⟨"DoorIsHeldModel", "areTwo", "(II)Z"⟩, 41) := ⟨⟨by decide +kernel, by decide +kernel⟩, List.mem_of_getElem? (i := 644) (by decide +kernel), List.mem_of_getElem? (i := 875) (by decide +kernel), List.mem_of_getElem? (i := 876) (by decide +kernel)⟩
theorem lw_p35 : lw_okq (⟨"DoorIsHeldModel", "farOf", "(III)I"⟩, 41) := ⟨⟨by decide +kernel, by decide +kernel⟩, List.mem_of_getElem? (i := 644) (by decide +kernel), List.mem_of_getElem? (i := 879) (by decide +kernel), List.mem_of_getElem? (i := 880) (by decide +kernel)⟩
theorem lw_p36 : lw_okq (⟨"DoorIsHeldModel", "thereOf", "(I)I"⟩, 41) := ⟨⟨by decide +kernel, by decide +kernel⟩, List.mem_of_getElem? (i := 644) (by decide +kernel), List.mem_of_getElem? (i := 887) (by decide +kernel), List.mem_of_getElem? (i := 888) (by decide +kernel)⟩
theorem lw_p37 : lw_okq (⟨"DoorIsHeldModel", "goesAll", "()V"⟩, 41) := ⟨⟨by decide +kernel, by decide +kernel⟩, List.mem_of_getElem? (i := 644) (by decide +kernel), List.mem_of_getElem? (i := 898) (by decide +kernel), List.mem_of_getElem? (i := 899) (by decide +kernel)⟩
theorem lw_p38 : lw_okq (⟨"DoorIsHeldModel", "goes", "(I)V"⟩, 41) := ⟨⟨by decide +kernel, by decide +kernel⟩, List.mem_of_getElem? (i := 644) (by decide +kernel), List.mem_of_getElem? (i := 902) (by decide +kernel), List.mem_of_getElem? (i := 903) (by decide +kernel)⟩
theorem lw_p39 : lw_okq (⟨"DoorIsHeldModel", "firstOf", "(I)I"⟩, 41) := ⟨⟨by decide +kernel, by decide +kernel⟩, List.mem_of_getElem? (i := 644) (by decide +kernel), List.mem_of_getElem? (i := 906) (by decide +kernel), List.mem_of_getElem? (i := 907) (by decide +kernel)⟩
theorem lw_p40 : lw_okq (⟨"DoorIsHeldModel", "opensFor", "(I)V"⟩, 41) := ⟨⟨by decide +kernel, by decide +kernel⟩, List.mem_of_getElem? (i := 644) (by decide +kernel), List.mem_of_getElem? (i := 910) (by decide +kernel), List.mem_of_getElem? (i := 911) (by decide +kernel)⟩
theorem lw_p41 : lw_okq (⟨"DoorIsHeldModel", "holdsFor", "(II)I"⟩, 41) := ⟨⟨by decide +kernel, by decide +kernel⟩, List.mem_of_getElem? (i := 644) (by decide +kernel), List.mem_of_getElem? (i := 914) (by decide +kernel), List.mem_of_getElem? (i := 915) (by decide +kernel)⟩
theorem lw_p42 : lw_okq (⟨"DoorIsHeldModel", "isHeldFor", "(III)V"⟩, 41) := ⟨⟨by decide +kernel, by decide +kernel⟩, List.mem_of_getElem? (i := 644) (by decide +kernel), List.mem_of_getElem? (i := 918) (by decide +kernel), List.mem_of_getElem? (i := 919) (by decide +kernel)⟩
theorem lw_p43 : lw_okq (⟨"DoorIsHeldModel", "lossOfAll", "()I"⟩, 41) := ⟨⟨by decide +kernel, by decide +kernel⟩, List.mem_of_getElem? (i := 644) (by decide +kernel), List.mem_of_getElem? (i := 950) (by decide +kernel), List.mem_of_getElem? (i := 951) (by decide +kernel)⟩
theorem lw_p44 : lw_okq (⟨"DoorIsHeldModel", "lossOf", "(I)I"⟩, 41) := ⟨⟨by decide +kernel, by decide +kernel⟩, List.mem_of_getElem? (i := 644) (by decide +kernel), List.mem_of_getElem? (i := 954) (by decide +kernel), List.mem_of_getElem? (i := 955) (by decide +kernel)⟩
theorem lw_p45 : lw_okq (⟨"DoorIsHeldModel", "heldMany", "()I"⟩, 41) := ⟨⟨by decide +kernel, by decide +kernel⟩, List.mem_of_getElem? (i := 644) (by decide +kernel), List.mem_of_getElem? (i := 962) (by decide +kernel), List.mem_of_getElem? (i := 963) (by decide +kernel)⟩
theorem lw_p46 : lw_okq (⟨"DoorIsHeldModel", "openSeconds", "()I"⟩, 41) := ⟨⟨by decide +kernel, by decide +kernel⟩, List.mem_of_getElem? (i := 644) (by decide +kernel), List.mem_of_getElem? (i := 978) (by decide +kernel), List.mem_of_getElem? (i := 979) (by decide +kernel)⟩
theorem lw_p47 : lw_okq (⟨"DoorIsHeldModel", "lossBy", "(II)I"⟩, 41) := ⟨⟨by decide +kernel, by decide +kernel⟩, List.mem_of_getElem? (i := 644) (by decide +kernel), List.mem_of_getElem? (i := 990) (by decide +kernel), List.mem_of_getElem? (i := 991) (by decide +kernel)⟩
def lw_privs_3 : List (MethodName × Nat) := [(⟨"DoorIsHeldModel", "isWalker", "(I)Z"⟩, 41), (⟨"DoorIsHeldModel", "heldYards", "(I)I"⟩, 41), (⟨"DoorIsHeldModel", "areTwo", "(II)Z"⟩, 41), (⟨"DoorIsHeldModel", "farOf", "(III)I"⟩, 41), (⟨"DoorIsHeldModel", "thereOf", "(I)I"⟩, 41), (⟨"DoorIsHeldModel", "goesAll", "()V"⟩, 41), (⟨"DoorIsHeldModel", "goes", "(I)V"⟩, 41), (⟨"DoorIsHeldModel", "firstOf", "(I)I"⟩, 41), (⟨"DoorIsHeldModel", "opensFor", "(I)V"⟩, 41), (⟨"DoorIsHeldModel", "holdsFor", "(II)I"⟩, 41), (⟨"DoorIsHeldModel", "isHeldFor", "(III)V"⟩, 41), (⟨"DoorIsHeldModel", "lossOfAll", "()I"⟩, 41), (⟨"DoorIsHeldModel", "lossOf", "(I)I"⟩, 41), (⟨"DoorIsHeldModel", "heldMany", "()I"⟩, 41), (⟨"DoorIsHeldModel", "openSeconds", "()I"⟩, 41), (⟨"DoorIsHeldModel", "lossBy", "(II)I"⟩, 41)]
theorem lw_r3 : ∀ q ∈ lw_privs_3, lw_okq q := List.forall_mem_cons.mpr ⟨lw_p32, List.forall_mem_cons.mpr ⟨lw_p33, List.forall_mem_cons.mpr ⟨lw_p34, List.forall_mem_cons.mpr ⟨lw_p35, List.forall_mem_cons.mpr ⟨lw_p36, List.forall_mem_cons.mpr ⟨lw_p37, List.forall_mem_cons.mpr ⟨lw_p38, List.forall_mem_cons.mpr ⟨lw_p39, List.forall_mem_cons.mpr ⟨lw_p40, List.forall_mem_cons.mpr ⟨lw_p41, List.forall_mem_cons.mpr ⟨lw_p42, List.forall_mem_cons.mpr ⟨lw_p43, List.forall_mem_cons.mpr ⟨lw_p44, List.forall_mem_cons.mpr ⟨lw_p45, List.forall_mem_cons.mpr ⟨lw_p46, List.forall_mem_cons.mpr ⟨lw_p47, fun _ h => absurd h List.not_mem_nil⟩⟩⟩⟩⟩⟩⟩⟩⟩⟩⟩⟩⟩⟩⟩⟩
theorem lw_p48 : lw_okq (⟨"DoorIsHeldModel", "addsFilm", "(IIII)V"⟩, 41) := ⟨⟨by decide +kernel, by decide +kernel⟩, List.mem_of_getElem? (i := 644) (by decide +kernel), List.mem_of_getElem? (i := 1029) (by decide +kernel), List.mem_of_getElem? (i := 1030) (by decide +kernel)⟩
theorem lw_p49 : lw_okq (⟨"DoorIsHeldModel", "doFit", "(II)Z"⟩, 41) := ⟨⟨by decide +kernel, by decide +kernel⟩, List.mem_of_getElem? (i := 644) (by decide +kernel), List.mem_of_getElem? (i := 1044) (by decide +kernel), List.mem_of_getElem? (i := 1045) (by decide +kernel)⟩
def lw_privs_4 : List (MethodName × Nat) := [(⟨"DoorIsHeldModel", "addsFilm", "(IIII)V"⟩, 41), (⟨"DoorIsHeldModel", "doFit", "(II)Z"⟩, 41)]
theorem lw_r4 : ∀ q ∈ lw_privs_4, lw_okq q := List.forall_mem_cons.mpr ⟨lw_p48, List.forall_mem_cons.mpr ⟨lw_p49, fun _ h => absurd h List.not_mem_nil⟩⟩
def lw_privs : List (MethodName × Nat) := lw_privs_1 ++ (lw_privs_2 ++ (lw_privs_3 ++ (lw_privs_4)))
def lw_tbl : List Cond := k2_sels lw_privs ++ tables_1
theorem lw_privs_ok : ∀ q ∈ lw_privs, lw_okq q := by
  show ∀ q ∈ lw_privs_1 ++ (lw_privs_2 ++ (lw_privs_3 ++ (lw_privs_4))), lw_okq q
  exact List.forall_mem_append.mpr ⟨lw_r1, List.forall_mem_append.mpr ⟨lw_r2, List.forall_mem_append.mpr ⟨lw_r3, lw_r4⟩⟩⟩
def RX0 : String := "DoorIsHeld$Films"
def TX0 : u_T := fun k => match k with
  | 0 => ("DoorIsHeld$Films", "yards", "[I", true)
  | 1 => ("DoorIsHeld$Films", "looks", "[I", true)
  | 2 => ("DoorIsHeld$Films", "bags", "[I", true)
  | 3 => ("DoorIsHeld$Films", "held", "[I", true)
  | _ => ("DoorIsHeld$Films", "count", "I", false)
def tyX0 : Nat → FieldType := fun k => match k with
  | 0 => .array .int
  | 1 => .array .int
  | 2 => .array .int
  | 3 => .array .int
  | _ => .int
abbrev wsX00 : List Cond := u_ws RX0 TX0 5
theorem nmX0 : ∀ a, a < 5 → ∀ b, b < 5 → a ≠ b → (TX0 a).2.1 ≠ (TX0 b).2.1 := by decide +kernel
theorem tyX0_ok : ∀ k, k < 5 → parseFieldDescriptor (TX0 k).2.2.1 = some (tyX0 k) := by decide +kernel
abbrev cX0_init : ByteArray := prog_2_method_1_code
def yX0_init : MethodName := ⟨RX0, "<init>", "()V"⟩
abbrev cX0_add : ByteArray := prog_2_method_2_code
def yX0_add : MethodName := ⟨RX0, "add", "(IIII)V"⟩
abbrev cX0_become : ByteArray := prog_2_method_3_code
def yX0_become : MethodName := ⟨RX0, "become", "(LDoorIsHeld$Films;)V"⟩
abbrev cX0_allAreSo : ByteArray := prog_2_method_4_code
def yX0_allAreSo : MethodName := ⟨RX0, "allAreSo", "(II)Z"⟩
def RX1 : String := "DoorIsHeld$Going"
def TX1 : u_T := fun k => match k with
  | 0 => ("DoorIsHeld$Going", "order", "[I", true)
  | 1 => ("DoorIsHeld$Going", "comes", "[I", true)
  | 2 => ("DoorIsHeld$Going", "through", "[I", true)
  | 3 => ("DoorIsHeld$Going", "opens", "[I", true)
  | 4 => ("DoorIsHeld$Going", "stands", "[I", true)
  | 5 => ("DoorIsHeld$Going", "by", "[I", true)
  | 6 => ("DoorIsHeld$Going", "runs", "[I", true)
  | 7 => ("DoorIsHeld$Going", "loss", "[I", true)
  | 8 => ("DoorIsHeld$Going", "thereFrom", "[I", true)
  | 9 => ("DoorIsHeld$Going", "passed", "[I", true)
  | _ => ("DoorIsHeld$Going", "walkers", "I", false)
def tyX1 : Nat → FieldType := fun k => match k with
  | 0 => .array .int
  | 1 => .array .int
  | 2 => .array .int
  | 3 => .array .int
  | 4 => .array .int
  | 5 => .array .int
  | 6 => .array .int
  | 7 => .array .int
  | 8 => .array .int
  | 9 => .array .int
  | _ => .int
abbrev wsX10 : List Cond := u_ws RX1 TX1 11
theorem nmX1 : ∀ a, a < 11 → ∀ b, b < 11 → a ≠ b → (TX1 a).2.1 ≠ (TX1 b).2.1 := by decide +kernel
theorem tyX1_ok : ∀ k, k < 11 → parseFieldDescriptor (TX1 k).2.2.1 = some (tyX1 k) := by decide +kernel
abbrev cX1_init : ByteArray := prog_3_method_1_code
def yX1_init : MethodName := ⟨RX1, "<init>", "()V"⟩
abbrev cX1_run : ByteArray := prog_3_method_2_code
def yX1_run : MethodName := ⟨RX1, "run", "(LDoorIsHeld$Told;)V"⟩
abbrev cX1_findNext : ByteArray := prog_3_method_3_code
def yX1_findNext : MethodName := ⟨RX1, "findNext", "()I"⟩
abbrev cX1_comeThrough : ByteArray := prog_3_method_4_code
def yX1_comeThrough : MethodName := ⟨RX1, "comeThrough", "(LDoorIsHeld$Told;II)V"⟩
abbrev cX1_secondsHeldFor : ByteArray := prog_3_method_5_code
def yX1_secondsHeldFor : MethodName := ⟨RX1, "secondsHeldFor", "(LDoorIsHeld$Told;II)I"⟩
abbrev cX1_goneAt : ByteArray := prog_3_method_6_code
def yX1_goneAt : MethodName := ⟨RX1, "goneAt", "(I)I"⟩
abbrev cX1_lossOfAll : ByteArray := prog_3_method_7_code
def yX1_lossOfAll : MethodName := ⟨RX1, "lossOfAll", "()I"⟩
abbrev cX1_countHeldFor : ByteArray := prog_3_method_8_code
def yX1_countHeldFor : MethodName := ⟨RX1, "countHeldFor", "()I"⟩
abbrev cX1_longestStand : ByteArray := prog_3_method_9_code
def yX1_longestStand : MethodName := ⟨RX1, "longestStand", "()I"⟩
abbrev cX1_openSeconds : ByteArray := prog_3_method_10_code
def yX1_openSeconds : MethodName := ⟨RX1, "openSeconds", "(I)I"⟩
def RX2 : String := "DoorIsHeld$Letters"
def TX2 : u_T := fun k => match k with
  | 0 => ("DoorIsHeld$Letters", "signs", "[I", true)
  | 1 => ("DoorIsHeld$Letters", "count", "I", false)
  | 2 => ("DoorIsHeld$Letters", "place", "I", false)
  | 3 => ("DoorIsHeld$Letters", "failed", "Z", false)
  | _ => ("DoorIsHeld$Letters", "numbers", "[I", true)
def tyX2 : Nat → FieldType := fun k => match k with
  | 0 => .array .int
  | 1 => .int
  | 2 => .int
  | 3 => .boolean
  | _ => .array .int
abbrev wsX20 : List Cond := u_ws RX2 TX2 5
theorem nmX2 : ∀ a, a < 5 → ∀ b, b < 5 → a ≠ b → (TX2 a).2.1 ≠ (TX2 b).2.1 := by decide +kernel
theorem tyX2_ok : ∀ k, k < 5 → parseFieldDescriptor (TX2 k).2.2.1 = some (tyX2 k) := by decide +kernel
abbrev cX2_init : ByteArray := prog_4_method_1_code
def yX2_init : MethodName := ⟨RX2, "<init>", "()V"⟩
abbrev cX2_add : ByteArray := prog_4_method_2_code
def yX2_add : MethodName := ⟨RX2, "add", "(I)V"⟩
abbrev cX2_findFault : ByteArray := prog_4_method_3_code
def yX2_findFault : MethodName := ⟨RX2, "findFault", "(LDoorIsHeld$Told;)I"⟩
abbrev cX2_bringInto : ByteArray := prog_4_method_4_code
def yX2_bringInto : MethodName := ⟨RX2, "bringInto", "(LDoorIsHeld$Told;)I"⟩
abbrev cX2_begin : ByteArray := prog_4_method_5_code
def yX2_begin : MethodName := ⟨RX2, "begin", "()V"⟩
abbrev cX2_bringStatement : ByteArray := prog_4_method_6_code
def yX2_bringStatement : MethodName := ⟨RX2, "bringStatement", "(LDoorIsHeld$Told;I)V"⟩
abbrev cX2_isAsItMustBe : ByteArray := prog_4_method_7_code
def yX2_isAsItMustBe : MethodName := ⟨RX2, "isAsItMustBe", "(II)Z"⟩
abbrev cX2_readStatement : ByteArray := prog_4_method_8_code
def yX2_readStatement : MethodName := ⟨RX2, "readStatement", "()I"⟩
abbrev cX2_here : ByteArray := prog_4_method_9_code
def yX2_here : MethodName := ⟨RX2, "here", "()I"⟩
abbrev cX2_isDigitHere : ByteArray := prog_4_method_10_code
def yX2_isDigitHere : MethodName := ⟨RX2, "isDigitHere", "()Z"⟩
abbrev cX2_readKind : ByteArray := prog_4_method_11_code
def yX2_readKind : MethodName := ⟨RX2, "readKind", "()V"⟩
abbrev cX2_readSign : ByteArray := prog_4_method_12_code
def yX2_readSign : MethodName := ⟨RX2, "readSign", "(C)V"⟩
abbrev cX2_readDigits : ByteArray := prog_4_method_13_code
def yX2_readDigits : MethodName := ⟨RX2, "readDigits", "(II)V"⟩
abbrev cX2_readNumber : ByteArray := prog_4_method_14_code
def yX2_readNumber : MethodName := ⟨RX2, "readNumber", "(I)V"⟩
abbrev cX2_take : ByteArray := prog_4_method_15_code
def yX2_take : MethodName := ⟨RX2, "take", "(Z)V"⟩
def RX3 : String := "DoorIsHeld$Told"
def TX3 : u_T := fun k => match k with
  | 0 => ("DoorIsHeld$Told", "sides", "[I", true)
  | 1 => ("DoorIsHeld$Told", "ofWalkers", "[I", true)
  | _ => ("DoorIsHeld$Told", "walkers", "I", false)
def tyX3 : Nat → FieldType := fun k => match k with
  | 0 => .array .int
  | 1 => .array .int
  | _ => .int
abbrev wsX30 : List Cond := u_ws RX3 TX3 3
theorem nmX3 : ∀ a, a < 3 → ∀ b, b < 3 → a ≠ b → (TX3 a).2.1 ≠ (TX3 b).2.1 := by decide +kernel
theorem tyX3_ok : ∀ k, k < 3 → parseFieldDescriptor (TX3 k).2.2.1 = some (tyX3 k) := by decide +kernel
abbrev cX3_init : ByteArray := prog_5_method_1_code
def yX3_init : MethodName := ⟨RX3, "<init>", "()V"⟩
abbrev cX3_has : ByteArray := prog_5_method_2_code
def yX3_has : MethodName := ⟨RX3, "has", "(I)Z"⟩
abbrev cX3_door : ByteArray := prog_5_method_3_code
def yX3_door : MethodName := ⟨RX3, "door", "(I)I"⟩
abbrev cX3_change : ByteArray := prog_5_method_4_code
def yX3_change : MethodName := ⟨RX3, "change", "(II)I"⟩
abbrev cX3_of : ByteArray := prog_5_method_5_code
def yX3_of : MethodName := ⟨RX3, "of", "(II)I"⟩
abbrev cX3_tell : ByteArray := prog_5_method_6_code
def yX3_tell : MethodName := ⟨RX3, "tell", "(III)V"⟩
abbrev cX3_addWalker : ByteArray := prog_5_method_7_code
def yX3_addWalker : MethodName := ⟨RX3, "addWalker", "([I)V"⟩
abbrev cX3_leaveOut : ByteArray := prog_5_method_8_code
def yX3_leaveOut : MethodName := ⟨RX3, "leaveOut", "(I)V"⟩
abbrev cX3_become : ByteArray := prog_5_method_9_code
def yX3_become : MethodName := ⟨RX3, "become", "(LDoorIsHeld$Told;)V"⟩
abbrev cX3_thereFrom : ByteArray := prog_5_method_10_code
def yX3_thereFrom : MethodName := ⟨RX3, "thereFrom", "(I)I"⟩
abbrev cX3_yardsHeldFor : ByteArray := prog_5_method_11_code
def yX3_yardsHeldFor : MethodName := ⟨RX3, "yardsHeldFor", "(I)I"⟩
abbrev cX3_yardsToGo : ByteArray := prog_5_method_12_code
def yX3_yardsToGo : MethodName := ⟨RX3, "yardsToGo", "(II)I"⟩
abbrev cX3_secondsToOpen : ByteArray := prog_5_method_13_code
def yX3_secondsToOpen : MethodName := ⟨RX3, "secondsToOpen", "(I)I"⟩
abbrev cX3_holdsUpTo : ByteArray := prog_5_method_14_code
def yX3_holdsUpTo : MethodName := ⟨RX3, "holdsUpTo", "(IIZ)I"⟩
def RX4 : String := "DoorIsHeld"
def TX4 : u_T := fun k => match k with
  | 0 => ("DoorIsHeld", "now", "LDoorIsHeld$Told;", true)
  | 1 => ("DoorIsHeld", "mind", "LDoorIsHeld$Told;", true)
  | 2 => ("DoorIsHeld", "films", "LDoorIsHeld$Films;", true)
  | 3 => ("DoorIsHeld", "imageOfTold", "LDoorIsHeld$Told;", true)
  | 4 => ("DoorIsHeld", "imageOfFilms", "LDoorIsHeld$Films;", true)
  | 5 => ("DoorIsHeld", "imageTaken", "Z", false)
  | 6 => ("DoorIsHeld", "letters", "LDoorIsHeld$Letters;", true)
  | 7 => ("DoorIsHeld", "going", "LDoorIsHeld$Going;", true)
  | 8 => ("DoorIsHeld", "lossByNever", "[I", true)
  | 9 => ("DoorIsHeld", "rowNumbers", "[I", true)
  | 10 => ("DoorIsHeld", "inRow", "I", false)
  | _ => ("DoorIsHeld", "refusals", "[I", true)
def tyX4 : Nat → FieldType := fun k => match k with
  | 0 => .object "DoorIsHeld$Told"
  | 1 => .object "DoorIsHeld$Told"
  | 2 => .object "DoorIsHeld$Films"
  | 3 => .object "DoorIsHeld$Told"
  | 4 => .object "DoorIsHeld$Films"
  | 5 => .boolean
  | 6 => .object "DoorIsHeld$Letters"
  | 7 => .object "DoorIsHeld$Going"
  | 8 => .array .int
  | 9 => .array .int
  | 10 => .int
  | _ => .array .int
abbrev wsX40 : List Cond := u_ws RX4 TX4 12
theorem nmX4 : ∀ a, a < 12 → ∀ b, b < 12 → a ≠ b → (TX4 a).2.1 ≠ (TX4 b).2.1 := by decide +kernel
theorem tyX4_ok : ∀ k, k < 12 → parseFieldDescriptor (TX4 k).2.2.1 = some (tyX4 k) := by decide +kernel
abbrev cX4_init : ByteArray := prog_1_method_1_code
def yX4_init : MethodName := ⟨RX4, "<init>", "()V"⟩
abbrev cX4_letter : ByteArray := prog_1_method_2_code
def yX4_letter : MethodName := ⟨RX4, "letter", "(I)I"⟩
abbrev cX4_way : ByteArray := prog_1_method_3_code
def yX4_way : MethodName := ⟨RX4, "way", "()I"⟩
abbrev cX4_walker : ByteArray := prog_1_method_4_code
def yX4_walker : MethodName := ⟨RX4, "walker", "(II)I"⟩
abbrev cX4_set : ByteArray := prog_1_method_5_code
def yX4_set : MethodName := ⟨RX4, "set", "(II)I"⟩
abbrev cX4_custom : ByteArray := prog_1_method_6_code
def yX4_custom : MethodName := ⟨RX4, "custom", "(I)I"⟩
abbrev cX4_far : ByteArray := prog_1_method_7_code
def yX4_far : MethodName := ⟨RX4, "far", "(III)I"⟩
abbrev cX4_there : ByteArray := prog_1_method_8_code
def yX4_there : MethodName := ⟨RX4, "there", "(I)I"⟩
abbrev cX4_order : ByteArray := prog_1_method_9_code
def yX4_order : MethodName := ⟨RX4, "order", "(I)I"⟩
abbrev cX4_comes : ByteArray := prog_1_method_10_code
def yX4_comes : MethodName := ⟨RX4, "comes", "(I)I"⟩
abbrev cX4_through : ByteArray := prog_1_method_11_code
def yX4_through : MethodName := ⟨RX4, "through", "(I)I"⟩
abbrev cX4_opens : ByteArray := prog_1_method_12_code
def yX4_opens : MethodName := ⟨RX4, "opens", "(I)I"⟩
abbrev cX4_stands : ByteArray := prog_1_method_13_code
def yX4_stands : MethodName := ⟨RX4, "stands", "(I)I"⟩
abbrev cX4_by : ByteArray := prog_1_method_14_code
def yX4_by : MethodName := ⟨RX4, "by", "(I)I"⟩
abbrev cX4_runs : ByteArray := prog_1_method_15_code
def yX4_runs : MethodName := ⟨RX4, "runs", "(I)I"⟩
abbrev cX4_loss : ByteArray := prog_1_method_16_code
def yX4_loss : MethodName := ⟨RX4, "loss", "(I)I"⟩
abbrev cX4_holds : ByteArray := prog_1_method_17_code
def yX4_holds : MethodName := ⟨RX4, "holds", "()I"⟩
abbrev cX4_longest : ByteArray := prog_1_method_18_code
def yX4_longest : MethodName := ⟨RX4, "longest", "()I"⟩
abbrev cX4_away : ByteArray := prog_1_method_19_code
def yX4_away : MethodName := ⟨RX4, "away", "()I"⟩
abbrev cX4_open : ByteArray := prog_1_method_20_code
def yX4_open : MethodName := ⟨RX4, "open", "()I"⟩
abbrev cX4_coals : ByteArray := prog_1_method_21_code
def yX4_coals : MethodName := ⟨RX4, "coals", "()I"⟩
abbrev cX4_byOther : ByteArray := prog_1_method_22_code
def yX4_byOther : MethodName := ⟨RX4, "byOther", "(II)I"⟩
abbrev cX4_bestFar : ByteArray := prog_1_method_23_code
def yX4_bestFar : MethodName := ⟨RX4, "bestFar", "()I"⟩
abbrev cX4_bestCustom : ByteArray := prog_1_method_24_code
def yX4_bestCustom : MethodName := ⟨RX4, "bestCustom", "()I"⟩
abbrev cX4_bestShuts : ByteArray := prog_1_method_25_code
def yX4_bestShuts : MethodName := ⟨RX4, "bestShuts", "()I"⟩
abbrev cX4_worse : ByteArray := prog_1_method_26_code
def yX4_worse : MethodName := ⟨RX4, "worse", "()I"⟩
abbrev cX4_followed : ByteArray := prog_1_method_27_code
def yX4_followed : MethodName := ⟨RX4, "followed", "()I"⟩
abbrev cX4_porter : ByteArray := prog_1_method_28_code
def yX4_porter : MethodName := ⟨RX4, "porter", "()I"⟩
abbrev cX4_alone : ByteArray := prog_1_method_29_code
def yX4_alone : MethodName := ⟨RX4, "alone", "(I)I"⟩
abbrev cX4_film : ByteArray := prog_1_method_30_code
def yX4_film : MethodName := ⟨RX4, "film", "(IIII)I"⟩
abbrev cX4_told : ByteArray := prog_1_method_31_code
def yX4_told : MethodName := ⟨RX4, "told", "(III)I"⟩
abbrev cX4_fitting : ByteArray := prog_1_method_32_code
def yX4_fitting : MethodName := ⟨RX4, "fitting", "(II)I"⟩
abbrev cX4_seeds : ByteArray := prog_1_method_33_code
def yX4_seeds : MethodName := ⟨RX4, "seeds", "(II)I"⟩
abbrev cX4_row : ByteArray := prog_1_method_34_code
def yX4_row : MethodName := ⟨RX4, "row", "(I)I"⟩
abbrev cX4_judge : ByteArray := prog_1_method_35_code
def yX4_judge : MethodName := ⟨RX4, "judge", "()I"⟩
abbrev cX4_image : ByteArray := prog_1_method_36_code
def yX4_image : MethodName := ⟨RX4, "image", "()I"⟩
abbrev cX4_on : ByteArray := prog_1_method_37_code
def yX4_on : MethodName := ⟨RX4, "on", "()I"⟩
abbrev cX4_count : ByteArray := prog_1_method_38_code
def yX4_count : MethodName := ⟨RX4, "count", "(I)I"⟩
abbrev cX4_refuse : ByteArray := prog_1_method_39_code
def yX4_refuse : MethodName := ⟨RX4, "refuse", "(I)I"⟩
abbrev cX4_answerOf : ByteArray := prog_1_method_40_code
def yX4_answerOf : MethodName := ⟨RX4, "answerOf", "([II)I"⟩
abbrev cX4_allLoss : ByteArray := prog_1_method_41_code
def yX4_allLoss : MethodName := ⟨RX4, "allLoss", "(LDoorIsHeld$Told;)I"⟩
abbrev cX4_runByNever : ByteArray := prog_1_method_42_code
def yX4_runByNever : MethodName := ⟨RX4, "runByNever", "()V"⟩
abbrev cX4_leastLossOver : ByteArray := prog_1_method_43_code
def yX4_leastLossOver : MethodName := ⟨RX4, "leastLossOver", "(II)I"⟩
abbrev cX4_refusalOfFilm : ByteArray := prog_1_method_44_code
def yX4_refusalOfFilm : MethodName := ⟨RX4, "refusalOfFilm", "(IIZ)I"⟩
abbrev cX4_isBit : ByteArray := prog_1_method_45_code
def yX4_isBit : MethodName := ⟨RX4, "isBit", "(I)Z"⟩
abbrev cX4_isCustom : ByteArray := prog_1_method_46_code
def yX4_isCustom : MethodName := ⟨RX4, "isCustom", "(I)Z"⟩
abbrev cX4_isFilmCustom : ByteArray := prog_1_method_47_code
def yX4_isFilmCustom : MethodName := ⟨RX4, "isFilmCustom", "(I)Z"⟩
abbrev cX4_filmUpTo : ByteArray := prog_1_method_48_code
def yX4_filmUpTo : MethodName := ⟨RX4, "filmUpTo", "(IIII)I"⟩
abbrev cX4_divideUp : ByteArray := prog_1_method_49_code
def yX4_divideUp : MethodName := ⟨RX4, "divideUp", "(II)I"⟩
abbrev cX4_at : ByteArray := prog_1_method_50_code
def yX4_at : MethodName := ⟨RX4, "at", "([II)I"⟩
abbrev cX4_put : ByteArray := prog_1_method_51_code
def yX4_put : MethodName := ⟨RX4, "put", "([III)V"⟩
abbrev cX4_copyRow : ByteArray := prog_1_method_52_code
def yX4_copyRow : MethodName := ⟨RX4, "copyRow", "([I[I)V"⟩
def RX5 : String := "DoorIsHeldModel"
def TX5 : u_T := fun k => match k with
  | 0 => ("DoorIsHeldModel", "refused", "[I", true)
  | 1 => ("DoorIsHeldModel", "kind", "[I", true)
  | 2 => ("DoorIsHeldModel", "start", "[I", true)
  | 3 => ("DoorIsHeldModel", "yards", "[I", true)
  | 4 => ("DoorIsHeldModel", "pace", "[I", true)
  | 5 => ("DoorIsHeldModel", "bags", "[I", true)
  | 6 => ("DoorIsHeldModel", "looks", "[I", true)
  | 7 => ("DoorIsHeldModel", "worth", "[I", true)
  | 8 => ("DoorIsHeldModel", "setting", "[I", true)
  | 9 => ("DoorIsHeldModel", "filmYards", "[I", true)
  | 10 => ("DoorIsHeldModel", "filmLooks", "[I", true)
  | 11 => ("DoorIsHeldModel", "filmBags", "[I", true)
  | 12 => ("DoorIsHeldModel", "filmHeld", "[I", true)
  | 13 => ("DoorIsHeldModel", "walkers", "I", false)
  | 14 => ("DoorIsHeldModel", "films", "I", false)
  | 15 => ("DoorIsHeldModel", "tape", "[I", true)
  | 16 => ("DoorIsHeldModel", "letter", "[I", true)
  | 17 => ("DoorIsHeldModel", "letterAt", "[I", true)
  | 18 => ("DoorIsHeldModel", "number", "[I", true)
  | 19 => ("DoorIsHeldModel", "taped", "I", false)
  | 20 => ("DoorIsHeldModel", "at", "I", false)
  | 21 => ("DoorIsHeldModel", "statements", "I", false)
  | 22 => ("DoorIsHeldModel", "kept", "[I", true)
  | 23 => ("DoorIsHeldModel", "hasImage", "Z", false)
  | 24 => ("DoorIsHeldModel", "isKeeping", "Z", false)
  | 25 => ("DoorIsHeldModel", "cursor", "I", false)
  | 26 => ("DoorIsHeldModel", "order", "[I", true)
  | 27 => ("DoorIsHeldModel", "coming", "[I", true)
  | 28 => ("DoorIsHeldModel", "past", "[I", true)
  | 29 => ("DoorIsHeldModel", "opening", "[I", true)
  | 30 => ("DoorIsHeldModel", "standing", "[I", true)
  | 31 => ("DoorIsHeldModel", "holder", "[I", true)
  | 32 => ("DoorIsHeldModel", "running", "[I", true)
  | 33 => ("DoorIsHeldModel", "chainFrom", "[I", true)
  | 34 => ("DoorIsHeldModel", "chainTo", "[I", true)
  | 35 => ("DoorIsHeldModel", "gone", "I", false)
  | 36 => ("DoorIsHeldModel", "orderMany", "I", false)
  | 37 => ("DoorIsHeldModel", "chains", "I", false)
  | 38 => ("DoorIsHeldModel", "never", "[I", true)
  | 39 => ("DoorIsHeldModel", "row", "[I", true)
  | _ => ("DoorIsHeldModel", "rowMany", "I", false)
def tyX5 : Nat → FieldType := fun k => match k with
  | 0 => .array .int
  | 1 => .array .int
  | 2 => .array .int
  | 3 => .array .int
  | 4 => .array .int
  | 5 => .array .int
  | 6 => .array .int
  | 7 => .array .int
  | 8 => .array .int
  | 9 => .array .int
  | 10 => .array .int
  | 11 => .array .int
  | 12 => .array .int
  | 13 => .int
  | 14 => .int
  | 15 => .array .int
  | 16 => .array .int
  | 17 => .array .int
  | 18 => .array .int
  | 19 => .int
  | 20 => .int
  | 21 => .int
  | 22 => .array .int
  | 23 => .boolean
  | 24 => .boolean
  | 25 => .int
  | 26 => .array .int
  | 27 => .array .int
  | 28 => .array .int
  | 29 => .array .int
  | 30 => .array .int
  | 31 => .array .int
  | 32 => .array .int
  | 33 => .array .int
  | 34 => .array .int
  | 35 => .int
  | 36 => .int
  | 37 => .int
  | 38 => .array .int
  | 39 => .array .int
  | _ => .int
abbrev wsX50 : List Cond := u_ws RX5 TX5 41
theorem nmX5 : ∀ a, a < 41 → ∀ b, b < 41 → a ≠ b → (TX5 a).2.1 ≠ (TX5 b).2.1 := by decide +kernel
theorem tyX5_ok : ∀ k, k < 41 → parseFieldDescriptor (TX5 k).2.2.1 = some (tyX5 k) := by decide +kernel
abbrev cX5_init : ByteArray := prog_7_method_1_code
def yX5_init : MethodName := ⟨RX5, "<init>", "()V"⟩
abbrev cX5_no : ByteArray := prog_7_method_2_code
def yX5_no : MethodName := ⟨RX5, "no", "(I)I"⟩
abbrev cX5_isIn : ByteArray := prog_7_method_3_code
def yX5_isIn : MethodName := ⟨RX5, "isIn", "(III)Z"⟩
abbrev cX5_bound : ByteArray := prog_7_method_4_code
def yX5_bound : MethodName := ⟨RX5, "bound", "(III)I"⟩
abbrev cX5_isWalker : ByteArray := prog_7_method_5_code
def yX5_isWalker : MethodName := ⟨RX5, "isWalker", "(I)Z"⟩
abbrev cX5_letter : ByteArray := prog_7_method_6_code
def yX5_letter : MethodName := ⟨RX5, "letter", "(I)I"⟩
abbrev cX5_next : ByteArray := prog_7_method_7_code
def yX5_next : MethodName := ⟨RX5, "next", "()I"⟩
abbrev cX5_isNext : ByteArray := prog_7_method_8_code
def yX5_isNext : MethodName := ⟨RX5, "isNext", "(I)Z"⟩
abbrev cX5_reads : ByteArray := prog_7_method_9_code
def yX5_reads : MethodName := ⟨RX5, "reads", "(II)Z"⟩
abbrev cX5_readsOnes : ByteArray := prog_7_method_10_code
def yX5_readsOnes : MethodName := ⟨RX5, "readsOnes", "(II)Z"⟩
abbrev cX5_kindOf : ByteArray := prog_7_method_11_code
def yX5_kindOf : MethodName := ⟨RX5, "kindOf", "(I)I"⟩
abbrev cX5_readsWalker : ByteArray := prog_7_method_12_code
def yX5_readsWalker : MethodName := ⟨RX5, "readsWalker", "(I)Z"⟩
abbrev cX5_statement : ByteArray := prog_7_method_13_code
def yX5_statement : MethodName := ⟨RX5, "statement", "()Z"⟩
abbrev cX5_comesWalker : ByteArray := prog_7_method_14_code
def yX5_comesWalker : MethodName := ⟨RX5, "comesWalker", "(I)Z"⟩
abbrev cX5_comesAs : ByteArray := prog_7_method_15_code
def yX5_comesAs : MethodName := ⟨RX5, "comesAs", "(I)Z"⟩
abbrev cX5_way : ByteArray := prog_7_method_16_code
def yX5_way : MethodName := ⟨RX5, "way", "()I"⟩
abbrev cX5_passes : ByteArray := prog_7_method_17_code
def yX5_passes : MethodName := ⟨RX5, "passes", "([I)V"⟩
abbrev cX5_passOne : ByteArray := prog_7_method_18_code
def yX5_passOne : MethodName := ⟨RX5, "passOne", "(I)I"⟩
abbrev cX5_passesAll : ByteArray := prog_7_method_19_code
def yX5_passesAll : MethodName := ⟨RX5, "passesAll", "(IZ)V"⟩
abbrev cX5_image : ByteArray := prog_7_method_20_code
def yX5_image : MethodName := ⟨RX5, "image", "()I"⟩
abbrev cX5_on : ByteArray := prog_7_method_21_code
def yX5_on : MethodName := ⟨RX5, "on", "()I"⟩
abbrev cX5_heldYards : ByteArray := prog_7_method_22_code
def yX5_heldYards : MethodName := ⟨RX5, "heldYards", "(I)I"⟩
abbrev cX5_walker : ByteArray := prog_7_method_23_code
def yX5_walker : MethodName := ⟨RX5, "walker", "(II)I"⟩
abbrev cX5_set : ByteArray := prog_7_method_24_code
def yX5_set : MethodName := ⟨RX5, "set", "(II)I"⟩
abbrev cX5_custom : ByteArray := prog_7_method_25_code
def yX5_custom : MethodName := ⟨RX5, "custom", "(I)I"⟩
abbrev cX5_farOf : ByteArray := prog_7_method_26_code
def yX5_farOf : MethodName := ⟨RX5, "farOf", "(III)I"⟩
abbrev cX5_areTwo : ByteArray := prog_7_method_27_code
def yX5_areTwo : MethodName := ⟨RX5, "areTwo", "(II)Z"⟩
abbrev cX5_far : ByteArray := prog_7_method_28_code
def yX5_far : MethodName := ⟨RX5, "far", "(III)I"⟩
abbrev cX5_upBy : ByteArray := prog_7_method_29_code
def yX5_upBy : MethodName := ⟨RX5, "upBy", "(II)I"⟩
abbrev cX5_thereOf : ByteArray := prog_7_method_30_code
def yX5_thereOf : MethodName := ⟨RX5, "thereOf", "(I)I"⟩
abbrev cX5_there : ByteArray := prog_7_method_31_code
def yX5_there : MethodName := ⟨RX5, "there", "(I)I"⟩
abbrev cX5_firstOf : ByteArray := prog_7_method_32_code
def yX5_firstOf : MethodName := ⟨RX5, "firstOf", "(I)I"⟩
abbrev cX5_holdsFor : ByteArray := prog_7_method_33_code
def yX5_holdsFor : MethodName := ⟨RX5, "holdsFor", "(II)I"⟩
abbrev cX5_opensFor : ByteArray := prog_7_method_34_code
def yX5_opensFor : MethodName := ⟨RX5, "opensFor", "(I)V"⟩
abbrev cX5_isHeldFor : ByteArray := prog_7_method_35_code
def yX5_isHeldFor : MethodName := ⟨RX5, "isHeldFor", "(III)V"⟩
abbrev cX5_goes : ByteArray := prog_7_method_36_code
def yX5_goes : MethodName := ⟨RX5, "goes", "(I)V"⟩
abbrev cX5_goesAll : ByteArray := prog_7_method_37_code
def yX5_goesAll : MethodName := ⟨RX5, "goesAll", "()V"⟩
abbrev cX5_lossOf : ByteArray := prog_7_method_38_code
def yX5_lossOf : MethodName := ⟨RX5, "lossOf", "(I)I"⟩
abbrev cX5_lossOfAll : ByteArray := prog_7_method_39_code
def yX5_lossOfAll : MethodName := ⟨RX5, "lossOfAll", "()I"⟩
abbrev cX5_order : ByteArray := prog_7_method_40_code
def yX5_order : MethodName := ⟨RX5, "order", "(I)I"⟩
abbrev cX5_comes : ByteArray := prog_7_method_41_code
def yX5_comes : MethodName := ⟨RX5, "comes", "(I)I"⟩
abbrev cX5_through : ByteArray := prog_7_method_42_code
def yX5_through : MethodName := ⟨RX5, "through", "(I)I"⟩
abbrev cX5_opens : ByteArray := prog_7_method_43_code
def yX5_opens : MethodName := ⟨RX5, "opens", "(I)I"⟩
abbrev cX5_stands : ByteArray := prog_7_method_44_code
def yX5_stands : MethodName := ⟨RX5, "stands", "(I)I"⟩
abbrev cX5_by : ByteArray := prog_7_method_45_code
def yX5_by : MethodName := ⟨RX5, "by", "(I)I"⟩
abbrev cX5_runs : ByteArray := prog_7_method_46_code
def yX5_runs : MethodName := ⟨RX5, "runs", "(I)I"⟩
abbrev cX5_loss : ByteArray := prog_7_method_47_code
def yX5_loss : MethodName := ⟨RX5, "loss", "(I)I"⟩
abbrev cX5_heldMany : ByteArray := prog_7_method_48_code
def yX5_heldMany : MethodName := ⟨RX5, "heldMany", "()I"⟩
abbrev cX5_holds : ByteArray := prog_7_method_49_code
def yX5_holds : MethodName := ⟨RX5, "holds", "()I"⟩
abbrev cX5_longest : ByteArray := prog_7_method_50_code
def yX5_longest : MethodName := ⟨RX5, "longest", "()I"⟩
abbrev cX5_away : ByteArray := prog_7_method_51_code
def yX5_away : MethodName := ⟨RX5, "away", "()I"⟩
abbrev cX5_openSeconds : ByteArray := prog_7_method_52_code
def yX5_openSeconds : MethodName := ⟨RX5, "openSeconds", "()I"⟩
abbrev cX5_open : ByteArray := prog_7_method_53_code
def yX5_open : MethodName := ⟨RX5, "open", "()I"⟩
abbrev cX5_coals : ByteArray := prog_7_method_54_code
def yX5_coals : MethodName := ⟨RX5, "coals", "()I"⟩
abbrev cX5_lossBy : ByteArray := prog_7_method_55_code
def yX5_lossBy : MethodName := ⟨RX5, "lossBy", "(II)I"⟩
abbrev cX5_byOther : ByteArray := prog_7_method_56_code
def yX5_byOther : MethodName := ⟨RX5, "byOther", "(II)I"⟩
abbrev cX5_bestFar : ByteArray := prog_7_method_57_code
def yX5_bestFar : MethodName := ⟨RX5, "bestFar", "()I"⟩
abbrev cX5_bestCustom : ByteArray := prog_7_method_58_code
def yX5_bestCustom : MethodName := ⟨RX5, "bestCustom", "()I"⟩
abbrev cX5_bestShuts : ByteArray := prog_7_method_59_code
def yX5_bestShuts : MethodName := ⟨RX5, "bestShuts", "()I"⟩
abbrev cX5_worse : ByteArray := prog_7_method_60_code
def yX5_worse : MethodName := ⟨RX5, "worse", "()I"⟩
abbrev cX5_followed : ByteArray := prog_7_method_61_code
def yX5_followed : MethodName := ⟨RX5, "followed", "()I"⟩
abbrev cX5_porter : ByteArray := prog_7_method_62_code
def yX5_porter : MethodName := ⟨RX5, "porter", "()I"⟩
abbrev cX5_alone : ByteArray := prog_7_method_63_code
def yX5_alone : MethodName := ⟨RX5, "alone", "(I)I"⟩
abbrev cX5_filmFar : ByteArray := prog_7_method_64_code
def yX5_filmFar : MethodName := ⟨RX5, "filmFar", "(IIII)I"⟩
abbrev cX5_notFilm : ByteArray := prog_7_method_65_code
def yX5_notFilm : MethodName := ⟨RX5, "notFilm", "(IIII)I"⟩
abbrev cX5_addsFilm : ByteArray := prog_7_method_66_code
def yX5_addsFilm : MethodName := ⟨RX5, "addsFilm", "(IIII)V"⟩
abbrev cX5_film : ByteArray := prog_7_method_67_code
def yX5_film : MethodName := ⟨RX5, "film", "(IIII)I"⟩
abbrev cX5_told : ByteArray := prog_7_method_68_code
def yX5_told : MethodName := ⟨RX5, "told", "(III)I"⟩
abbrev cX5_doFit : ByteArray := prog_7_method_69_code
def yX5_doFit : MethodName := ⟨RX5, "doFit", "(II)Z"⟩
abbrev cX5_fitting : ByteArray := prog_7_method_70_code
def yX5_fitting : MethodName := ⟨RX5, "fitting", "(II)I"⟩
abbrev cX5_seeds : ByteArray := prog_7_method_71_code
def yX5_seeds : MethodName := ⟨RX5, "seeds", "(II)I"⟩
abbrev cX5_row : ByteArray := prog_7_method_72_code
def yX5_row : MethodName := ⟨RX5, "row", "(I)I"⟩
abbrev cX5_judge : ByteArray := prog_7_method_73_code
def yX5_judge : MethodName := ⟨RX5, "judge", "()I"⟩
abbrev cX5_count : ByteArray := prog_7_method_74_code
def yX5_count : MethodName := ⟨RX5, "count", "(I)I"⟩
def RJ11 : String := "java/lang/Character"
def TJ11 : u_T := fun k => match k with
  | _ => ("", "", "", false)
def tyJ11 : Nat → FieldType := fun k => match k with
  | _ => .int
abbrev wsJ110 : List Cond := u_ws RJ11 TJ11 0
theorem nmJ11 : ∀ a, a < 0 → ∀ b, b < 0 → a ≠ b → (TJ11 a).2.1 ≠ (TJ11 b).2.1 := by decide +kernel
theorem tyJ11_ok : ∀ k, k < 0 → parseFieldDescriptor (TJ11 k).2.2.1 = some (tyJ11 k) := by decide +kernel
abbrev cJ11_isValidCodePoint_9a6ad : ByteArray := prog_8_method_11_code
def yJ11_isValidCodePoint_9a6ad : MethodName := ⟨RJ11, "isValidCodePoint", "(I)Z"⟩
abbrev cJ11_highSurrogate_5068e : ByteArray := prog_8_method_28_code
def yJ11_highSurrogate_5068e : MethodName := ⟨RJ11, "highSurrogate", "(I)C"⟩
abbrev cJ11_lowSurrogate_5068e : ByteArray := prog_8_method_29_code
def yJ11_lowSurrogate_5068e : MethodName := ⟨RJ11, "lowSurrogate", "(I)C"⟩
def RJ9 : String := "java/lang/Math"
def TJ9 : u_T := fun k => match k with
  | _ => ("", "", "", false)
def tyJ9 : Nat → FieldType := fun k => match k with
  | _ => .int
abbrev wsJ90 : List Cond := u_ws RJ9 TJ9 0
theorem nmJ9 : ∀ a, a < 0 → ∀ b, b < 0 → a ≠ b → (TJ9 a).2.1 ≠ (TJ9 b).2.1 := by decide +kernel
theorem tyJ9_ok : ∀ k, k < 0 → parseFieldDescriptor (TJ9 k).2.2.1 = some (tyJ9 k) := by decide +kernel
abbrev cJ9_max_7cf53 : ByteArray := prog_9_method_65_code
def yJ9_max_7cf53 : MethodName := ⟨RJ9, "max", "(II)I"⟩
abbrev cJ9_min_7cf53 : ByteArray := prog_9_method_69_code
def yJ9_min_7cf53 : MethodName := ⟨RJ9, "min", "(II)I"⟩
def RJ0 : String := "java/lang/String"
def TJ0 : u_T := fun k => match k with
  | _ => ("", "", "", false)
def tyJ0 : Nat → FieldType := fun k => match k with
  | _ => .int
abbrev wsJ00 : List Cond := u_ws RJ0 TJ0 0
theorem nmJ0 : ∀ a, a < 0 → ∀ b, b < 0 → a ≠ b → (TJ0 a).2.1 ≠ (TJ0 b).2.1 := by decide +kernel
theorem tyJ0_ok : ∀ k, k < 0 → parseFieldDescriptor (TJ0 k).2.2.1 = some (tyJ0 k) := by decide +kernel
abbrev cJ0_length_8abf5 : ByteArray := prog_10_method_54_code
def yJ0_length_8abf5 : MethodName := ⟨RJ0, "length", "()I"⟩
abbrev cJ0_indexOf_0f7a4 : ByteArray := prog_10_method_79_code
def yJ0_indexOf_0f7a4 : MethodName := ⟨RJ0, "indexOf", "(I)I"⟩
abbrev cJ0_indexOf_7cf53 : ByteArray := prog_10_method_80_code
def yJ0_indexOf_7cf53 : MethodName := ⟨RJ0, "indexOf", "(II)I"⟩
abbrev cJ0_coder_7d493 : ByteArray := prog_10_method_152_code
def yJ0_coder_7d493 : MethodName := ⟨RJ0, "coder", "()B"⟩
abbrev cJ0_isLatin1_aae02 : ByteArray := prog_10_method_154_code
def yJ0_isLatin1_aae02 : MethodName := ⟨RJ0, "isLatin1", "()Z"⟩
abbrev cJ0_checkBoundsBeginEnd_23922 : ByteArray := prog_10_method_158_code
def yJ0_checkBoundsBeginEnd_23922 : MethodName := ⟨RJ0, "checkBoundsBeginEnd", "(III)V"⟩
def RJ1 : String := "java/lang/StringLatin1"
def TJ1 : u_T := fun k => match k with
  | _ => ("", "", "", false)
def tyJ1 : Nat → FieldType := fun k => match k with
  | _ => .int
abbrev wsJ10 : List Cond := u_ws RJ1 TJ1 0
theorem nmJ1 : ∀ a, a < 0 → ∀ b, b < 0 → a ≠ b → (TJ1 a).2.1 ≠ (TJ1 b).2.1 := by decide +kernel
theorem tyJ1_ok : ∀ k, k < 0 → parseFieldDescriptor (TJ1 k).2.2.1 = some (tyJ1 k) := by decide +kernel
abbrev cJ1_canEncode_9a6ad : ByteArray := prog_11_method_4_code
def yJ1_canEncode_9a6ad : MethodName := ⟨RJ1, "canEncode", "(I)Z"⟩
abbrev cJ1_indexOf_4cfef : ByteArray := prog_11_method_22_code
def yJ1_indexOf_4cfef : MethodName := ⟨RJ1, "indexOf", "([BIII)I"⟩
abbrev cJ1_indexOfChar_4cfef : ByteArray := prog_11_method_23_code
def yJ1_indexOfChar_4cfef : MethodName := ⟨RJ1, "indexOfChar", "([BIII)I"⟩
def RJ2 : String := "java/lang/StringUTF16"
def TJ2 : u_T := fun k => match k with
  | _ => ("", "", "", false)
def tyJ2 : Nat → FieldType := fun k => match k with
  | _ => .int
abbrev wsJ20 : List Cond := u_ws RJ2 TJ2 0
theorem nmJ2 : ∀ a, a < 0 → ∀ b, b < 0 → a ≠ b → (TJ2 a).2.1 ≠ (TJ2 b).2.1 := by decide +kernel
theorem tyJ2_ok : ∀ k, k < 0 → parseFieldDescriptor (TJ2 k).2.2.1 = some (tyJ2 k) := by decide +kernel
abbrev cJ2_getChar_3b067 : ByteArray := prog_12_method_5_code
def yJ2_getChar_3b067 : MethodName := ⟨RJ2, "getChar", "([BI)C"⟩
abbrev cJ2_length_9d52b : ByteArray := prog_12_method_6_code
def yJ2_length_9d52b : MethodName := ⟨RJ2, "length", "([B)I"⟩
abbrev cJ2_indexOf_4cfef : ByteArray := prog_12_method_40_code
def yJ2_indexOf_4cfef : MethodName := ⟨RJ2, "indexOf", "([BIII)I"⟩
abbrev cJ2_indexOfChar_4cfef : ByteArray := prog_12_method_47_code
def yJ2_indexOfChar_4cfef : MethodName := ⟨RJ2, "indexOfChar", "([BIII)I"⟩
abbrev cJ2_indexOfCharUnsafe_4cfef : ByteArray := prog_12_method_48_code
def yJ2_indexOfCharUnsafe_4cfef : MethodName := ⟨RJ2, "indexOfCharUnsafe", "([BIII)I"⟩
abbrev cJ2_indexOfSupplementary_4cfef : ByteArray := prog_12_method_49_code
def yJ2_indexOfSupplementary_4cfef : MethodName := ⟨RJ2, "indexOfSupplementary", "([BIII)I"⟩
abbrev cJ2_checkBoundsBeginEnd_d044e : ByteArray := prog_12_method_93_code
def yJ2_checkBoundsBeginEnd_d044e : MethodName := ⟨RJ2, "checkBoundsBeginEnd", "(II[B)V"⟩
def RJ3 : String := "jdk/internal/util/Preconditions"
def TJ3 : u_T := fun k => match k with
  | _ => ("", "", "", false)
def tyJ3 : Nat → FieldType := fun k => match k with
  | _ => .int
abbrev wsJ30 : List Cond := u_ws RJ3 TJ3 0
theorem nmJ3 : ∀ a, a < 0 → ∀ b, b < 0 → a ≠ b → (TJ3 a).2.1 ≠ (TJ3 b).2.1 := by decide +kernel
theorem tyJ3_ok : ∀ k, k < 0 → parseFieldDescriptor (TJ3 k).2.2.1 = some (tyJ3 k) := by decide +kernel
abbrev cJ3_checkFromToIndex_8c36e : ByteArray := prog_13_method_12_code
def yJ3_checkFromToIndex_8c36e : MethodName := ⟨RJ3, "checkFromToIndex", "(IIILjava/util/function/BiFunction;)I"⟩
def RL : String := "DoorIsHeldLaw"
abbrev cL_law : ByteArray := code
def yL_law : MethodName := ⟨RL, "law", "([I)Z"⟩
